theorem M_readSort_144_b30 {d : Nat} {n1 : Int} {Q : MV → Wd → Prop} {w : Wd} (h : Cw d 186 [mR 144, mI 1, mI 48] w (fun r w' => Wp (Cw d) cd_M_readSort (2, 0, n1) Q 34 [mR 144] [r] w')) : Wp (Cw d) cd_M_readSort (2, 0, n1) Q 30 [mR 144] [] w :=
  Wp.s (Wp.s (Wp.s (Wp.s h)))
theorem M_readSort_144_b34 {d : Nat} {n1 : Int} {Q : MV → Wd → Prop} {s0 : Int} {w : Wd} (h1 : ¬ s0 = 0 → Wp (Cw d) cd_M_readSort (2, 0, n1) Q 37 [mR 144] [] w) (h2 : ¬ (¬ s0 = 0) → Wp (Cw d) cd_M_readSort (2, 0, n1) Q 35 [none] [] w) : Wp (Cw d) cd_M_readSort (2, 0, n1) Q 34 [mR 144] [mI s0] w :=
  Wp.s ⟨fun q => h1 q, fun q => Wp.fgd (leA.f leA.e) (h2 q)⟩
theorem M_readSort_144_b35 {d : Nat} {n1 : Int} {Q : MV → Wd → Prop} {w : Wd} (h : Q (mI 0) w) : Wp (Cw d) cd_M_readSort (2, 0, n1) Q 35 [none] [] w :=
  Wp.s (Wp.s ⟨(Or.inl rfl), h⟩)
theorem M_readSort_144_b37 {d : Nat} {n1 : Int} {Q : MV → Wd → Prop} {w : Wd} (g2 : (0 : Int) ≤ w32 (23 + (w 147 1.toNat)) ∧ w32 (23 + (w 147 1.toNat)) < 333) (h : Q (mI 1) (ub (ub w 147 (w32 (23 + (w 147 1.toNat))).toNat (w 144 18)) 147 1.toNat (w32 (((up1 (w 147) (w32 (23 + (w 147 1.toNat))).toNat (w 144 18)) 1.toNat) + 1)))) : Wp (Cw d) cd_M_readSort (2, 0, n1) Q 37 [mR 144] [] w :=
  Wp.s (Wp.s (Wp.s (Wp.s (Wp.s (Wp.s (Wp.s ⟨(by decide), Wp.s (Wp.s (Wp.s (Wp.s ⟨g2, Wp.s (Wp.s (Wp.s (Wp.s (Wp.s ⟨(by decide), Wp.s (Wp.s (Wp.s ⟨(by decide), Wp.s (Wp.s ⟨(Or.inr rfl), h⟩)⟩))⟩))))⟩)))⟩))))))
theorem M_readMakes_144_b0 {d : Nat} {n1 : Int} {Q : MV → Wd → Prop} {w : Wd} (h : Cw d 175 [mR 144] w (fun _ w' => Wp (Cw d) cd_M_readMakes (2, 0, n1) Q 2 [mR 144, none, none, none, none, none, none] [] w')) : Wp (Cw d) cd_M_readMakes (2, 0, n1) Q 0 [mR 144, none, none, none, none, none, none] [] w :=
  Wp.s (Wp.s h)
theorem M_readMakes_144_b2 {d : Nat} {n1 : Int} {Q : MV → Wd → Prop} {w : Wd} (h : Cw d 190 [mR 144, mI ((-1))] w (fun r w' => Wp (Cw d) cd_M_readMakes (2, 0, n1) Q 5 [mR 144, none, none, none, none, none, none] [r] w')) : Wp (Cw d) cd_M_readMakes (2, 0, n1) Q 2 [mR 144, none, none, none, none, none, none] [] w :=
  Wp.s (Wp.s (Wp.s h))
theorem M_readMakes_144_b5 {d : Nat} {n1 : Int} {Q : MV → Wd → Prop} {s0 : Int} {w : Wd} (h1 : ¬ s0 = 0 → Wp (Cw d) cd_M_readMakes (2, 0, n1) Q 8 [mR 144, none, none, none, none, none, none] [] w) (h2 : ¬ (¬ s0 = 0) → Wp (Cw d) cd_M_readMakes (2, 0, n1) Q 6 [none, none, none, none, none, none, none] [] w) : Wp (Cw d) cd_M_readMakes (2, 0, n1) Q 5 [mR 144, none, none, none, none, none, none] [mI s0] w :=
  Wp.s ⟨fun q => h1 q, fun q => Wp.fgd (leA.f (leA.f (leA.f (leA.f (leA.f (leA.f (leA.f leA.e))))))) (h2 q)⟩
theorem M_readMakes_144_b6 {d : Nat} {n1 : Int} {Q : MV → Wd → Prop} {w : Wd} (h : Q (mI 0) w) : Wp (Cw d) cd_M_readMakes (2, 0, n1) Q 6 [none, none, none, none, none, none, none] [] w :=
  Wp.s (Wp.s ⟨(Or.inl rfl), h⟩)
theorem M_readMakes_144_b8 {d : Nat} {n1 : Int} {Q : MV → Wd → Prop} {w : Wd} (h : Cw d 180 [mR 144, mL 2003399784] w (fun r w' => Wp (Cw d) cd_M_readMakes (2, 0, n1) Q 16 [mR 144, mI (w 144 18), mI ((-1)), none, none, none, none] [r] w')) : Wp (Cw d) cd_M_readMakes (2, 0, n1) Q 8 [mR 144, none, none, none, none, none, none] [] w :=
  Wp.s (Wp.s (Wp.s (Wp.s (Wp.s (Wp.s (Wp.s (Wp.s h)))))))
theorem M_readMakes_144_b16 {d : Nat} {n1 : Int} {Q : MV → Wd → Prop} {x1 x2 s0 : Int} {w : Wd} (h1 : s0 = 0 → Wp (Cw d) cd_M_readMakes (2, 0, n1) Q 28 [mR 144, mI x1, mI x2, none, none, none, none] [] w) (h2 : ¬ (s0 = 0) → Wp (Cw d) cd_M_readMakes (2, 0, n1) Q 17 [mR 144, mI x1, none, none, none, none, none] [] w) : Wp (Cw d) cd_M_readMakes (2, 0, n1) Q 16 [mR 144, mI x1, mI x2, none, none, none, none] [mI s0] w :=
  Wp.s ⟨fun q => h1 q, fun q => Wp.fgd (leA.k (leA.k (leA.f (leA.f (leA.f (leA.f (leA.f leA.e))))))) (h2 q)⟩
theorem M_readMakes_144_b17 {d : Nat} {n1 : Int} {Q : MV → Wd → Prop} {x1 : Int} {w : Wd} (h : Cw d 175 [mR 144] w (fun _ w' => Wp (Cw d) cd_M_readMakes (2, 0, n1) Q 19 [mR 144, mI x1, none, none, none, none, none] [] w')) : Wp (Cw d) cd_M_readMakes (2, 0, n1) Q 17 [mR 144, mI x1, none, none, none, none, none] [] w :=
  Wp.s (Wp.s h)
theorem M_readMakes_144_b19 {d : Nat} {n1 : Int} {Q : MV → Wd → Prop} {x1 : Int} {w : Wd} (h : Cw d 190 [mR 144, mI x1] w (fun r w' => Wp (Cw d) cd_M_readMakes (2, 0, n1) Q 22 [mR 144, mI x1, none, none, none, none, none] [r] w')) : Wp (Cw d) cd_M_readMakes (2, 0, n1) Q 19 [mR 144, mI x1, none, none, none, none, none] [] w :=
  Wp.s (Wp.s (Wp.s h))
theorem M_readMakes_144_b22 {d : Nat} {n1 : Int} {Q : MV → Wd → Prop} {x1 s0 : Int} {w : Wd} (h1 : ¬ s0 = 0 → Wp (Cw d) cd_M_readMakes (2, 0, n1) Q 25 [mR 144, mI x1, none, none, none, none, none] [] w) (h2 : ¬ (¬ s0 = 0) → Wp (Cw d) cd_M_readMakes (2, 0, n1) Q 23 [none, none, none, none, none, none, none] [] w) : Wp (Cw d) cd_M_readMakes (2, 0, n1) Q 22 [mR 144, mI x1, none, none, none, none, none] [mI s0] w :=
  Wp.s ⟨fun q => h1 q, fun q => Wp.fgd (leA.f (leA.f (leA.f (leA.f (leA.f (leA.f (leA.f leA.e))))))) (h2 q)⟩
theorem M_readMakes_144_b23 {d : Nat} {n1 : Int} {Q : MV → Wd → Prop} {w : Wd} (h : Q (mI 0) w) : Wp (Cw d) cd_M_readMakes (2, 0, n1) Q 23 [none, none, none, none, none, none, none] [] w :=
  Wp.s (Wp.s ⟨(Or.inl rfl), h⟩)
theorem M_readMakes_144_b25 {d : Nat} {n1 : Int} {Q : MV → Wd → Prop} {x1 : Int} {w : Wd} (h : Wp (Cw d) cd_M_readMakes (2, 0, n1) Q 28 [mR 144, mI x1, mI (w 144 18), none, none, none, none] [] w) : Wp (Cw d) cd_M_readMakes (2, 0, n1) Q 25 [mR 144, mI x1, none, none, none, none, none] [] w :=
  Wp.s (Wp.s (Wp.s h))
theorem M_readMakes_144_b28 {d : Nat} {n1 : Int} {Q : MV → Wd → Prop} {x1 x2 : Int} {w : Wd} (h : Cw d 191 [mR 144] w (fun r w' => Wp (Cw d) cd_M_readMakes (2, 0, n1) Q 30 [mR 144, mI x1, mI x2, none, none, none, none] [r] w')) : Wp (Cw d) cd_M_readMakes (2, 0, n1) Q 28 [mR 144, mI x1, mI x2, none, none, none, none] [] w :=
  Wp.s (Wp.s h)
theorem M_readMakes_144_b30 {d : Nat} {n1 : Int} {Q : MV → Wd → Prop} {x1 x2 s0 : Int} {w : Wd} (h1 : ¬ s0 = 0 → Wp (Cw d) cd_M_readMakes (2, 0, n1) Q 33 [mR 144, mI x1, mI x2, none, none, none, none] [] w) (h2 : ¬ (¬ s0 = 0) → Wp (Cw d) cd_M_readMakes (2, 0, n1) Q 31 [none, none, none, none, none, none, none] [] w) : Wp (Cw d) cd_M_readMakes (2, 0, n1) Q 30 [mR 144, mI x1, mI x2, none, none, none, none] [mI s0] w :=
  Wp.s ⟨fun q => h1 q, fun q => Wp.fgd (leA.f (leA.f (leA.f (leA.f (leA.f (leA.f (leA.f leA.e))))))) (h2 q)⟩
theorem M_readMakes_144_b31 {d : Nat} {n1 : Int} {Q : MV → Wd → Prop} {w : Wd} (h : Q (mI 0) w) : Wp (Cw d) cd_M_readMakes (2, 0, n1) Q 31 [none, none, none, none, none, none, none] [] w :=
  Wp.s (Wp.s ⟨(Or.inl rfl), h⟩)
theorem M_readMakes_144_b33 {d : Nat} {n1 : Int} {Q : MV → Wd → Prop} {x1 x2 : Int} {w : Wd} (h1 : ¬ w 144 11 = 2 → Wp (Cw d) cd_M_readMakes (2, 0, n1) Q 59 [mR 144, mI x1, mI x2, mI (w 144 18), none, none, none] [] w) (h2 : ¬ (¬ w 144 11 = 2) → Wp (Cw d) cd_M_readMakes (2, 0, n1) Q 40 [mR 144, mI x1, mI x2, mI (w 144 18), none, none, none] [] w) : Wp (Cw d) cd_M_readMakes (2, 0, n1) Q 33 [mR 144, mI x1, mI x2, none, none, none, none] [] w :=
  Wp.s (Wp.s (Wp.s (Wp.s (Wp.s (Wp.s (Wp.s ⟨fun q => h1 q, fun q => h2 q⟩))))))
theorem M_readMakes_144_b40 {d : Nat} {n1 : Int} {Q : MV → Wd → Prop} {x1 x2 x3 : Int} {w : Wd} (h : Cw d 187 [mI (w 144 14), mI 1, mI 9] w (fun r w' => Wp (Cw d) cd_M_readMakes (2, 0, n1) Q 45 [mR 144, mI x1, mI x2, mI x3, none, none, none] [r] w')) : Wp (Cw d) cd_M_readMakes (2, 0, n1) Q 40 [mR 144, mI x1, mI x2, mI x3, none, none, none] [] w :=
  Wp.s (Wp.s (Wp.s (Wp.s (Wp.s h))))
theorem M_readMakes_144_b45 {d : Nat} {n1 : Int} {Q : MV → Wd → Prop} {x1 x2 x3 s0 : Int} {w : Wd} (h1 : s0 = 0 → Wp (Cw d) cd_M_readMakes (2, 0, n1) Q 59 [mR 144, mI x1, mI x2, mI x3, none, none, none] [] w) (h2 : ¬ (s0 = 0) → Wp (Cw d) cd_M_readMakes (2, 0, n1) Q 46 [mR 144, mI x1, mI x2, mI x3, none, none, none] [] w) : Wp (Cw d) cd_M_readMakes (2, 0, n1) Q 45 [mR 144, mI x1, mI x2, mI x3, none, none, none] [mI s0] w :=
  Wp.s ⟨fun q => h1 q, fun q => h2 q⟩
theorem M_readMakes_144_b46 {d : Nat} {n1 : Int} {Q : MV → Wd → Prop} {x1 x2 x3 : Int} {w : Wd} (h1 : w32 ((w 147 2.toNat) + (w 144 14)) ≤ 16 → Wp (Cw d) cd_M_readMakes (2, 0, n1) Q 59 [mR 144, mI x1, mI x2, mI x3, none, none, none] [] w) (h2 : ¬ (w32 ((w 147 2.toNat) + (w 144 14)) ≤ 16) → Wp (Cw d) cd_M_readMakes (2, 0, n1) Q 55 [mR 144, none, none, none, none, none, none] [] w) : Wp (Cw d) cd_M_readMakes (2, 0, n1) Q 46 [mR 144, mI x1, mI x2, mI x3, none, none, none] [] w :=
  Wp.s (Wp.s (Wp.s (Wp.s ⟨(by decide), Wp.s (Wp.s (Wp.s (Wp.s (Wp.s ⟨fun q => h1 q, fun q => Wp.fgd (leA.k (leA.f (leA.f (leA.f (leA.f (leA.f (leA.f leA.e))))))) (h2 q)⟩))))⟩)))
theorem M_readMakes_144_b55 {d : Nat} {n1 : Int} {Q : MV → Wd → Prop} {w : Wd} (h : Cw d 182 [mR 144, mI 4] w (fun r w' => Wp (Cw d) cd_M_readMakes (2, 0, n1) Q 58 [none, none, none, none, none, none, none] [r] w')) : Wp (Cw d) cd_M_readMakes (2, 0, n1) Q 55 [mR 144, none, none, none, none, none, none] [] w :=
  Wp.s (Wp.s (Wp.s (Cw_mono _ _ _ _ _ _ (fun r w' q => Wp.fgd (leA.f (leA.f (leA.f (leA.f (leA.f (leA.f (leA.f leA.e))))))) q) h)))
theorem M_readMakes_144_b58 {d : Nat} {n1 : Int} {Q : MV → Wd → Prop} {s0 : Int} {w : Wd} (g1 : s0 = 0 ∨ s0 = 1) (h : Q (mI s0) w) : Wp (Cw d) cd_M_readMakes (2, 0, n1) Q 58 [none, none, none, none, none, none, none] [mI s0] w :=
  Wp.s ⟨g1, h⟩
theorem M_readMakes_144_b59 {d : Nat} {n1 : Int} {Q : MV → Wd → Prop} {x1 x2 x3 : Int} {w : Wd} (h : Cw d 186 [mR 144, mI 1, mI 9] w (fun r w' => Wp (Cw d) cd_M_readMakes (2, 0, n1) Q 63 [mR 144, mI x1, mI x2, mI x3, none, none, none] [r] w')) : Wp (Cw d) cd_M_readMakes (2, 0, n1) Q 59 [mR 144, mI x1, mI x2, mI x3, none, none, none] [] w :=
  Wp.s (Wp.s (Wp.s (Wp.s h)))
theorem M_readMakes_144_b63 {d : Nat} {n1 : Int} {Q : MV → Wd → Prop} {x1 x2 x3 s0 : Int} {w : Wd} (h1 : ¬ s0 = 0 → Wp (Cw d) cd_M_readMakes (2, 0, n1) Q 66 [mR 144, mI x1, mI x2, mI x3, none, none, none] [] w) (h2 : ¬ (¬ s0 = 0) → Wp (Cw d) cd_M_readMakes (2, 0, n1) Q 64 [none, none, none, none, none, none, none] [] w) : Wp (Cw d) cd_M_readMakes (2, 0, n1) Q 63 [mR 144, mI x1, mI x2, mI x3, none, none, none] [mI s0] w :=
  Wp.s ⟨fun q => h1 q, fun q => Wp.fgd (leA.f (leA.f (leA.f (leA.f (leA.f (leA.f (leA.f leA.e))))))) (h2 q)⟩
theorem M_readMakes_144_b64 {d : Nat} {n1 : Int} {Q : MV → Wd → Prop} {w : Wd} (h : Q (mI 0) w) : Wp (Cw d) cd_M_readMakes (2, 0, n1) Q 64 [none, none, none, none, none, none, none] [] w :=
  Wp.s (Wp.s ⟨(Or.inl rfl), h⟩)
theorem M_readMakes_144_b66 {d : Nat} {n1 : Int} {Q : MV → Wd → Prop} {x1 x2 x3 : Int} {w : Wd} (h : Cw d 186 [mR 144, mI 0, mI 47] w (fun r w' => Wp (Cw d) cd_M_readMakes (2, 0, n1) Q 73 [mR 144, mI x1, mI x2, mI x3, mI (w 144 18), none, none] [r] w')) : Wp (Cw d) cd_M_readMakes (2, 0, n1) Q 66 [mR 144, mI x1, mI x2, mI x3, none, none, none] [] w :=
  Wp.s (Wp.s (Wp.s (Wp.s (Wp.s (Wp.s (Wp.s h))))))
theorem M_readMakes_144_b73 {d : Nat} {n1 : Int} {Q : MV → Wd → Prop} {x1 x2 x3 x4 s0 : Int} {w : Wd} (h1 : ¬ s0 = 0 → Wp (Cw d) cd_M_readMakes (2, 0, n1) Q 76 [mR 144, mI x1, mI x2, mI x3, mI x4, none, none] [] w) (h2 : ¬ (¬ s0 = 0) → Wp (Cw d) cd_M_readMakes (2, 0, n1) Q 74 [none, none, none, none, none, none, none] [] w) : Wp (Cw d) cd_M_readMakes (2, 0, n1) Q 73 [mR 144, mI x1, mI x2, mI x3, mI x4, none, none] [mI s0] w :=
  Wp.s ⟨fun q => h1 q, fun q => Wp.fgd (leA.f (leA.f (leA.f (leA.f (leA.f (leA.f (leA.f leA.e))))))) (h2 q)⟩
theorem M_readMakes_144_b74 {d : Nat} {n1 : Int} {Q : MV → Wd → Prop} {w : Wd} (h : Q (mI 0) w) : Wp (Cw d) cd_M_readMakes (2, 0, n1) Q 74 [none, none, none, none, none, none, none] [] w :=
  Wp.s (Wp.s ⟨(Or.inl rfl), h⟩)
theorem M_readMakes_144_b76 {d : Nat} {n1 : Int} {Q : MV → Wd → Prop} {x1 x2 x3 x4 : Int} {w : Wd} (h : Wp (Cw d) cd_M_readMakes (2, 0, n1) Q 78 [mR 144, mI x1, mI x2, mI x3, mI x4, mI 0, none] [] w) : Wp (Cw d) cd_M_readMakes (2, 0, n1) Q 76 [mR 144, mI x1, mI x2, mI x3, mI x4, none, none] [] w :=
  Wp.s (Wp.s h)
theorem M_readMakes_144_b78 {d : Nat} {n1 : Int} {Q : MV → Wd → Prop} {x1 x2 x3 x4 x5 : Int} {w : Wd} (h1 : x4 ≤ x5 → Wp (Cw d) cd_M_readMakes (2, 0, n1) Q 135 [none, none, none, none, none, none, none] [] w) (h2 : ¬ (x4 ≤ x5) → Wp (Cw d) cd_M_readMakes (2, 0, n1) Q 81 [mR 144, mI x1, mI x2, mI x3, mI x4, mI x5, none] [] w) : Wp (Cw d) cd_M_readMakes (2, 0, n1) Q 78 [mR 144, mI x1, mI x2, mI x3, mI x4, mI x5, none] [] w :=
  Wp.s (Wp.s (Wp.s ⟨fun q => Wp.fgd (leA.f (leA.f (leA.f (leA.f (leA.f (leA.f (leA.f leA.e))))))) (h1 q), fun q => h2 q⟩))
theorem M_readMakes_144_b81 {d : Nat} {n1 : Int} {Q : MV → Wd → Prop} {x1 x2 x3 x4 x5 : Int} {w : Wd} (g2 : (0 : Int) ≤ w32 (29 + (w32 (5 * (w 147 2.toNat)))) ∧ w32 (29 + (w32 (5 * (w 147 2.toNat)))) < 333) (g3 : (0 : Int) ≤ w32 ((w32 (29 + (w32 (5 * (w 147 2.toNat))))) + 1) ∧ w32 ((w32 (29 + (w32 (5 * (w 147 2.toNat))))) + 1) < 333) (g4 : (0 : Int) ≤ w32 ((w32 (29 + (w32 (5 * (w 147 2.toNat))))) + 2) ∧ w32 ((w32 (29 + (w32 (5 * (w 147 2.toNat))))) + 2) < 333) (g5 : (0 : Int) ≤ w32 ((w32 (29 + (w32 (5 * (w 147 2.toNat))))) + 3) ∧ w32 ((w32 (29 + (w32 (5 * (w 147 2.toNat))))) + 3) < 333) (g6 : (0 : Int) ≤ w32 ((w32 (29 + (w32 (5 * (w 147 2.toNat))))) + 4) ∧ w32 ((w32 (29 + (w32 (5 * (w 147 2.toNat))))) + 4) < 333) (h : Wp (Cw d) cd_M_readMakes (2, 0, n1) Q 78 [mR 144, mI x1, mI x2, mI x3, mI x4, mI (w32 (x5 + 1)), none] [] (ub (ub (ub (ub (ub (ub w 147 (w32 (29 + (w32 (5 * (w 147 2.toNat))))).toNat (w 144 20)) 147 (w32 ((w32 (29 + (w32 (5 * (w 147 2.toNat))))) + 1)).toNat x3) 147 (w32 ((w32 (29 + (w32 (5 * (w 147 2.toNat))))) + 2)).toNat x1) 147 (w32 ((w32 (29 + (w32 (5 * (w 147 2.toNat))))) + 3)).toNat x2) 147 (w32 ((w32 (29 + (w32 (5 * (w 147 2.toNat))))) + 4)).toNat (w 144 18)) 147 2.toNat (w32 (((up1 (up1 (up1 (up1 (up1 (w 147) (w32 (29 + (w32 (5 * (w 147 2.toNat))))).toNat (w 144 20)) (w32 ((w32 (29 + (w32 (5 * (w 147 2.toNat))))) + 1)).toNat x3) (w32 ((w32 (29 + (w32 (5 * (w 147 2.toNat))))) + 2)).toNat x1) (w32 ((w32 (29 + (w32 (5 * (w 147 2.toNat))))) + 3)).toNat x2) (w32 ((w32 (29 + (w32 (5 * (w 147 2.toNat))))) + 4)).toNat (w 144 18)) 2.toNat) + 1)))) : Wp (Cw d) cd_M_readMakes (2, 0, n1) Q 81 [mR 144, mI x1, mI x2, mI x3, mI x4, mI x5, none] [] w :=
  Wp.s (Wp.s (Wp.s (Wp.s (Wp.s (Wp.s ⟨(by decide), Wp.s (Wp.s (Wp.s (Wp.s (Wp.s (Wp.s (Wp.s (Wp.s (Wp.s ⟨g2, Wp.s (Wp.s (Wp.s (Wp.s (Wp.s (Wp.s (Wp.s ⟨g3, Wp.s (Wp.s (Wp.s (Wp.s (Wp.s (Wp.s (Wp.s ⟨g4, Wp.s (Wp.s (Wp.s (Wp.s (Wp.s (Wp.s (Wp.s ⟨g5, Wp.s (Wp.s (Wp.s (Wp.s (Wp.s (Wp.s (Wp.s (Wp.s ⟨g6, Wp.s (Wp.s (Wp.s (Wp.s (Wp.s ⟨(by decide), Wp.s (Wp.s (Wp.s ⟨(by decide), Wp.s (Wp.s (Wp.fgd (leA.k (leA.k (leA.k (leA.k (leA.k (leA.k (leA.f leA.e))))))) h))⟩))⟩))))⟩)))))))⟩))))))⟩))))))⟩))))))⟩))))))))⟩)))))
theorem M_readMakes_144_b135 {d : Nat} {n1 : Int} {Q : MV → Wd → Prop} {w : Wd} (h : Q (mI 1) w) : Wp (Cw d) cd_M_readMakes (2, 0, n1) Q 135 [none, none, none, none, none, none, none] [] w :=
  Wp.s (Wp.s ⟨(Or.inr rfl), h⟩)
theorem M_readWants_144_b0 {d : Nat} {n1 : Int} {Q : MV → Wd → Prop} {w : Wd} (h1 : ¬ w 147 3.toNat = 8 → Wp (Cw d) cd_M_readWants (2, 0, n1) Q 10 [mR 144, none] [] w) (h2 : ¬ (¬ w 147 3.toNat = 8) → Wp (Cw d) cd_M_readWants (2, 0, n1) Q 6 [mR 144, none] [] w) : Wp (Cw d) cd_M_readWants (2, 0, n1) Q 0 [mR 144, none] [] w :=
  Wp.s (Wp.s (Wp.s (Wp.s ⟨(by decide), Wp.s (Wp.s ⟨fun q => h1 q, fun q => h2 q⟩)⟩)))
theorem M_readWants_144_b6 {d : Nat} {n1 : Int} {Q : MV → Wd → Prop} {w : Wd} (h : Cw d 182 [mR 144, mI 4] w (fun r w' => Wp (Cw d) cd_M_readWants (2, 0, n1) Q 9 [none, none] [r] w')) : Wp (Cw d) cd_M_readWants (2, 0, n1) Q 6 [mR 144, none] [] w :=
  Wp.s (Wp.s (Wp.s (Cw_mono _ _ _ _ _ _ (fun r w' q => Wp.fgd (leA.f (leA.f leA.e)) q) h)))
theorem M_readWants_144_b9 {d : Nat} {n1 : Int} {Q : MV → Wd → Prop} {s0 : Int} {w : Wd} (g1 : s0 = 0 ∨ s0 = 1) (h : Q (mI s0) w) : Wp (Cw d) cd_M_readWants (2, 0, n1) Q 9 [none, none] [mI s0] w :=
  Wp.s ⟨g1, h⟩
theorem M_readWants_144_b10 {d : Nat} {n1 : Int} {Q : MV → Wd → Prop} {w : Wd} (h : Cw d 175 [mR 144] w (fun _ w' => Wp (Cw d) cd_M_readWants (2, 0, n1) Q 12 [mR 144, none] [] w')) : Wp (Cw d) cd_M_readWants (2, 0, n1) Q 10 [mR 144, none] [] w :=
  Wp.s (Wp.s h)
theorem M_readWants_144_b12 {d : Nat} {n1 : Int} {Q : MV → Wd → Prop} {w : Wd} (h : Cw d 190 [mR 144, mI ((-1))] w (fun r w' => Wp (Cw d) cd_M_readWants (2, 0, n1) Q 24 [mR 144, mI (w32 (109 + (w32 (4 * (w 147 3.toNat)))))] [r] w')) : Wp (Cw d) cd_M_readWants (2, 0, n1) Q 12 [mR 144, none] [] w :=
  Wp.s (Wp.s (Wp.s (Wp.s (Wp.s (Wp.s ⟨(by decide), Wp.s (Wp.s (Wp.s (Wp.s (Wp.s (Wp.s h)))))⟩)))))
theorem M_readWants_144_b24 {d : Nat} {n1 : Int} {Q : MV → Wd → Prop} {x1 s0 : Int} {w : Wd} (h1 : ¬ s0 = 0 → Wp (Cw d) cd_M_readWants (2, 0, n1) Q 27 [mR 144, mI x1] [] w) (h2 : ¬ (¬ s0 = 0) → Wp (Cw d) cd_M_readWants (2, 0, n1) Q 25 [none, none] [] w) : Wp (Cw d) cd_M_readWants (2, 0, n1) Q 24 [mR 144, mI x1] [mI s0] w :=
  Wp.s ⟨fun q => h1 q, fun q => Wp.fgd (leA.f (leA.f leA.e)) (h2 q)⟩
theorem M_readWants_144_b25 {d : Nat} {n1 : Int} {Q : MV → Wd → Prop} {w : Wd} (h : Q (mI 0) w) : Wp (Cw d) cd_M_readWants (2, 0, n1) Q 25 [none, none] [] w :=
  Wp.s (Wp.s ⟨(Or.inl rfl), h⟩)
theorem M_readWants_144_b27 {d : Nat} {n1 : Int} {Q : MV → Wd → Prop} {x1 : Int} {w : Wd} (g1 : (0 : Int) ≤ x1 ∧ x1 < 333) (h : Cw d 191 [mR 144] (ub w 147 x1.toNat (w 144 18)) (fun r w' => Wp (Cw d) cd_M_readWants (2, 0, n1) Q 35 [mR 144, mI x1] [r] w')) : Wp (Cw d) cd_M_readWants (2, 0, n1) Q 27 [mR 144, mI x1] [] w :=
  Wp.s (Wp.s (Wp.s (Wp.s (Wp.s (Wp.s ⟨g1, Wp.s (Wp.s h)⟩)))))
theorem M_readWants_144_b35 {d : Nat} {n1 : Int} {Q : MV → Wd → Prop} {x1 s0 : Int} {w : Wd} (h1 : ¬ s0 = 0 → Wp (Cw d) cd_M_readWants (2, 0, n1) Q 38 [mR 144, mI x1] [] w) (h2 : ¬ (¬ s0 = 0) → Wp (Cw d) cd_M_readWants (2, 0, n1) Q 36 [none, none] [] w) : Wp (Cw d) cd_M_readWants (2, 0, n1) Q 35 [mR 144, mI x1] [mI s0] w :=
  Wp.s ⟨fun q => h1 q, fun q => Wp.fgd (leA.f (leA.f leA.e)) (h2 q)⟩
theorem M_readWants_144_b36 {d : Nat} {n1 : Int} {Q : MV → Wd → Prop} {w : Wd} (h : Q (mI 0) w) : Wp (Cw d) cd_M_readWants (2, 0, n1) Q 36 [none, none] [] w :=
  Wp.s (Wp.s ⟨(Or.inl rfl), h⟩)
theorem M_readWants_144_b38 {d : Nat} {n1 : Int} {Q : MV → Wd → Prop} {x1 : Int} {w : Wd} (g1 : (0 : Int) ≤ w32 (x1 + 1) ∧ w32 (x1 + 1) < 333) (h : Cw d 186 [mR 144, mI 0, mI 999] (ub w 147 (w32 (x1 + 1)).toNat (w 144 18)) (fun r w' => Wp (Cw d) cd_M_readWants (2, 0, n1) Q 50 [mR 144, mI x1] [r] w')) : Wp (Cw d) cd_M_readWants (2, 0, n1) Q 38 [mR 144, mI x1] [] w :=
  Wp.s (Wp.s (Wp.s (Wp.s (Wp.s (Wp.s (Wp.s (Wp.s ⟨g1, Wp.s (Wp.s (Wp.s (Wp.s h)))⟩)))))))
theorem M_readWants_144_b50 {d : Nat} {n1 : Int} {Q : MV → Wd → Prop} {x1 s0 : Int} {w : Wd} (h1 : ¬ s0 = 0 → Wp (Cw d) cd_M_readWants (2, 0, n1) Q 53 [mR 144, mI x1] [] w) (h2 : ¬ (¬ s0 = 0) → Wp (Cw d) cd_M_readWants (2, 0, n1) Q 51 [none, none] [] w) : Wp (Cw d) cd_M_readWants (2, 0, n1) Q 50 [mR 144, mI x1] [mI s0] w :=
  Wp.s ⟨fun q => h1 q, fun q => Wp.fgd (leA.f (leA.f leA.e)) (h2 q)⟩
theorem M_readWants_144_b51 {d : Nat} {n1 : Int} {Q : MV → Wd → Prop} {w : Wd} (h : Q (mI 0) w) : Wp (Cw d) cd_M_readWants (2, 0, n1) Q 51 [none, none] [] w :=
  Wp.s (Wp.s ⟨(Or.inl rfl), h⟩)
theorem M_readWants_144_b53 {d : Nat} {n1 : Int} {Q : MV → Wd → Prop} {x1 : Int} {w : Wd} (g1 : (0 : Int) ≤ w32 (x1 + 2) ∧ w32 (x1 + 2) < 333) (g2 : (0 : Int) ≤ w32 (x1 + 3) ∧ w32 (x1 + 3) < 333) (h : Cw d 180 [mR 144, mL 25209] (ub (ub w 147 (w32 (x1 + 2)).toNat (w 144 18)) 147 (w32 (x1 + 3)).toNat 47) (fun r w' => Wp (Cw d) cd_M_readWants (2, 0, n1) Q 71 [mR 144, mI x1] [r] w')) : Wp (Cw d) cd_M_readWants (2, 0, n1) Q 53 [mR 144, mI x1] [] w :=
  Wp.s (Wp.s (Wp.s (Wp.s (Wp.s (Wp.s (Wp.s (Wp.s ⟨g1, Wp.s (Wp.s (Wp.s (Wp.s (Wp.s (Wp.s (Wp.s ⟨g2, Wp.s (Wp.s (Wp.s h))⟩))))))⟩)))))))
theorem M_readWants_144_b71 {d : Nat} {n1 : Int} {Q : MV → Wd → Prop} {x1 s0 : Int} {w : Wd} (h1 : s0 = 0 → Wp (Cw d) cd_M_readWants (2, 0, n1) Q 89 [mR 144, none] [] w) (h2 : ¬ (s0 = 0) → Wp (Cw d) cd_M_readWants (2, 0, n1) Q 72 [mR 144, mI x1] [] w) : Wp (Cw d) cd_M_readWants (2, 0, n1) Q 71 [mR 144, mI x1] [mI s0] w :=
  Wp.s ⟨fun q => Wp.fgd (leA.k (leA.f leA.e)) (h1 q), fun q => h2 q⟩
theorem M_readWants_144_b72 {d : Nat} {n1 : Int} {Q : MV → Wd → Prop} {x1 : Int} {w : Wd} (h : Cw d 175 [mR 144] w (fun _ w' => Wp (Cw d) cd_M_readWants (2, 0, n1) Q 74 [mR 144, mI x1] [] w')) : Wp (Cw d) cd_M_readWants (2, 0, n1) Q 72 [mR 144, mI x1] [] w :=
  Wp.s (Wp.s h)
theorem M_readWants_144_b74 {d : Nat} {n1 : Int} {Q : MV → Wd → Prop} {x1 : Int} {w : Wd} (h : Cw d 186 [mR 144, mI 0, mI 47] w (fun r w' => Wp (Cw d) cd_M_readWants (2, 0, n1) Q 78 [mR 144, mI x1] [r] w')) : Wp (Cw d) cd_M_readWants (2, 0, n1) Q 74 [mR 144, mI x1] [] w :=
  Wp.s (Wp.s (Wp.s (Wp.s h)))
theorem M_readWants_144_b78 {d : Nat} {n1 : Int} {Q : MV → Wd → Prop} {x1 s0 : Int} {w : Wd} (h1 : ¬ s0 = 0 → Wp (Cw d) cd_M_readWants (2, 0, n1) Q 81 [mR 144, mI x1] [] w) (h2 : ¬ (¬ s0 = 0) → Wp (Cw d) cd_M_readWants (2, 0, n1) Q 79 [none, none] [] w) : Wp (Cw d) cd_M_readWants (2, 0, n1) Q 78 [mR 144, mI x1] [mI s0] w :=
  Wp.s ⟨fun q => h1 q, fun q => Wp.fgd (leA.f (leA.f leA.e)) (h2 q)⟩
theorem M_readWants_144_b79 {d : Nat} {n1 : Int} {Q : MV → Wd → Prop} {w : Wd} (h : Q (mI 0) w) : Wp (Cw d) cd_M_readWants (2, 0, n1) Q 79 [none, none] [] w :=
  Wp.s (Wp.s ⟨(Or.inl rfl), h⟩)
theorem M_readWants_144_b81 {d : Nat} {n1 : Int} {Q : MV → Wd → Prop} {x1 : Int} {w : Wd} (g1 : (0 : Int) ≤ w32 (x1 + 3) ∧ w32 (x1 + 3) < 333) (h : Wp (Cw d) cd_M_readWants (2, 0, n1) Q 89 [mR 144, none] [] (ub w 147 (w32 (x1 + 3)).toNat (w 144 18))) : Wp (Cw d) cd_M_readWants (2, 0, n1) Q 81 [mR 144, mI x1] [] w :=
  Wp.s (Wp.s (Wp.s (Wp.s (Wp.s (Wp.s (Wp.s (Wp.s ⟨g1, Wp.fgd (leA.k (leA.f leA.e)) h⟩)))))))
theorem M_readWants_144_b89 {d : Nat} {n1 : Int} {Q : MV → Wd → Prop} {w : Wd} (h : Q (mI 1) (ub w 147 3.toNat (w32 ((w 147 3.toNat) + 1)))) : Wp (Cw d) cd_M_readWants (2, 0, n1) Q 89 [mR 144, none] [] w :=
  Wp.s (Wp.s (Wp.s (Wp.s (Wp.s ⟨(by decide), Wp.s (Wp.s (Wp.s ⟨(by decide), Wp.s (Wp.s ⟨(Or.inr rfl), h⟩)⟩))⟩))))
theorem M_readGives_144_b0 {d : Nat} {n1 : Int} {Q : MV → Wd → Prop} {w : Wd} (h : Cw d 175 [mR 144] w (fun _ w' => Wp (Cw d) cd_M_readGives (2, 0, n1) Q 2 [mR 144, none, none] [] w')) : Wp (Cw d) cd_M_readGives (2, 0, n1) Q 0 [mR 144, none, none] [] w :=
  Wp.s (Wp.s h)
theorem M_readGives_144_b2 {d : Nat} {n1 : Int} {Q : MV → Wd → Prop} {w : Wd} (h : Cw d 190 [mR 144, mI ((-1))] w (fun r w' => Wp (Cw d) cd_M_readGives (2, 0, n1) Q 5 [mR 144, none, none] [r] w')) : Wp (Cw d) cd_M_readGives (2, 0, n1) Q 2 [mR 144, none, none] [] w :=
  Wp.s (Wp.s (Wp.s h))
theorem M_readGives_144_b5 {d : Nat} {n1 : Int} {Q : MV → Wd → Prop} {s0 : Int} {w : Wd} (h1 : ¬ s0 = 0 → Wp (Cw d) cd_M_readGives (2, 0, n1) Q 8 [mR 144, none, none] [] w) (h2 : ¬ (¬ s0 = 0) → Wp (Cw d) cd_M_readGives (2, 0, n1) Q 6 [none, none, none] [] w) : Wp (Cw d) cd_M_readGives (2, 0, n1) Q 5 [mR 144, none, none] [mI s0] w :=
  Wp.s ⟨fun q => h1 q, fun q => Wp.fgd (leA.f (leA.f (leA.f leA.e))) (h2 q)⟩
theorem M_readGives_144_b6 {d : Nat} {n1 : Int} {Q : MV → Wd → Prop} {w : Wd} (h : Q (mI 0) w) : Wp (Cw d) cd_M_readGives (2, 0, n1) Q 6 [none, none, none] [] w :=
  Wp.s (Wp.s ⟨(Or.inl rfl), h⟩)
theorem M_readGives_144_b8 {d : Nat} {n1 : Int} {Q : MV → Wd → Prop} {w : Wd} (h : Cw d 184 [mR 144] w (fun r w' => Wp (Cw d) cd_M_readGives (2, 0, n1) Q 13 [mR 144, mI (w 144 18), none] [r] w')) : Wp (Cw d) cd_M_readGives (2, 0, n1) Q 8 [mR 144, none, none] [] w :=
  Wp.s (Wp.s (Wp.s (Wp.s (Wp.s h))))
theorem M_readGives_144_b13 {d : Nat} {n1 : Int} {Q : MV → Wd → Prop} {x1 s0 : Int} {w : Wd} (h1 : ¬ s0 = 0 → Wp (Cw d) cd_M_readGives (2, 0, n1) Q 18 [mR 144, mI x1, none] [] w) (h2 : ¬ (¬ s0 = 0) → Wp (Cw d) cd_M_readGives (2, 0, n1) Q 14 [mR 144, none, none] [] w) : Wp (Cw d) cd_M_readGives (2, 0, n1) Q 13 [mR 144, mI x1, none] [mI s0] w :=
  Wp.s ⟨fun q => h1 q, fun q => Wp.fgd (leA.k (leA.f (leA.f leA.e))) (h2 q)⟩
theorem M_readGives_144_b14 {d : Nat} {n1 : Int} {Q : MV → Wd → Prop} {w : Wd} (h : Cw d 182 [mR 144, mI 1] w (fun r w' => Wp (Cw d) cd_M_readGives (2, 0, n1) Q 17 [none, none, none] [r] w')) : Wp (Cw d) cd_M_readGives (2, 0, n1) Q 14 [mR 144, none, none] [] w :=
  Wp.s (Wp.s (Wp.s (Cw_mono _ _ _ _ _ _ (fun r w' q => Wp.fgd (leA.f (leA.f (leA.f leA.e))) q) h)))
theorem M_readGives_144_b17 {d : Nat} {n1 : Int} {Q : MV → Wd → Prop} {s0 : Int} {w : Wd} (g1 : s0 = 0 ∨ s0 = 1) (h : Q (mI s0) w) : Wp (Cw d) cd_M_readGives (2, 0, n1) Q 17 [none, none, none] [mI s0] w :=
  Wp.s ⟨g1, h⟩
theorem M_readGives_144_b18 {d : Nat} {n1 : Int} {Q : MV → Wd → Prop} {x1 : Int} {w : Wd} (h : Cw d 185 [mR 144, mI 14, mI (w 147 0.toNat)] w (fun r w' => Wp (Cw d) cd_M_readGives (2, 0, n1) Q 25 [mR 144, mI x1, none] [r] w')) : Wp (Cw d) cd_M_readGives (2, 0, n1) Q 18 [mR 144, mI x1, none] [] w :=
  Wp.s (Wp.s (Wp.s (Wp.s (Wp.s (Wp.s ⟨(by decide), Wp.s h⟩)))))
theorem M_readGives_144_b25 {d : Nat} {n1 : Int} {Q : MV → Wd → Prop} {x1 s0 : Int} {w : Wd} (h1 : s0 < 0 → Wp (Cw d) cd_M_readGives (2, 0, n1) Q 43 [mR 144, none, none] [] w) (h2 : ¬ (s0 < 0) → Wp (Cw d) cd_M_readGives (2, 0, n1) Q 28 [mR 144, mI x1, mI s0] [] w) : Wp (Cw d) cd_M_readGives (2, 0, n1) Q 25 [mR 144, mI x1, none] [mI s0] w :=
  Wp.s (Wp.s (Wp.s ⟨fun q => Wp.fgd (leA.k (leA.f (leA.f leA.e))) (h1 q), fun q => h2 q⟩))
theorem M_readGives_144_b28 {d : Nat} {n1 : Int} {Q : MV → Wd → Prop} {x1 x2 : Int} {w : Wd} (h1 : x2 = x1 → Wp (Cw d) cd_M_readGives (2, 0, n1) Q 43 [mR 144, none, none] [] w) (h2 : ¬ (x2 = x1) → Wp (Cw d) cd_M_readGives (2, 0, n1) Q 31 [mR 144, mI x1, mI x2] [] w) : Wp (Cw d) cd_M_readGives (2, 0, n1) Q 28 [mR 144, mI x1, mI x2] [] w :=
  Wp.s (Wp.s (Wp.s ⟨fun q => Wp.fgd (leA.k (leA.f (leA.f leA.e))) (h1 q), fun q => h2 q⟩))
theorem M_readGives_144_b31 {d : Nat} {n1 : Int} {Q : MV → Wd → Prop} {x1 x2 : Int} {w : Wd} (g1 : (0 : Int) ≤ w32 ((w32 (269 + (w32 (8 * x1)))) + x2) ∧ w32 ((w32 (269 + (w32 (8 * x1)))) + x2) < 333) (h1 : ¬ w 147 (w32 ((w32 (269 + (w32 (8 * x1)))) + x2)).toNat = 1 → Wp (Cw d) cd_M_readGives (2, 0, n1) Q 47 [mR 144, mI x1, mI x2] [] w) (h2 : ¬ (¬ w 147 (w32 ((w32 (269 + (w32 (8 * x1)))) + x2)).toNat = 1) → Wp (Cw d) cd_M_readGives (2, 0, n1) Q 43 [mR 144, none, none] [] w) : Wp (Cw d) cd_M_readGives (2, 0, n1) Q 31 [mR 144, mI x1, mI x2] [] w :=
  Wp.s (Wp.s (Wp.s (Wp.s (Wp.s (Wp.s (Wp.s (Wp.s (Wp.s (Wp.s ⟨g1, Wp.s (Wp.s ⟨fun q => h1 q, fun q => Wp.fgd (leA.k (leA.f (leA.f leA.e))) (h2 q)⟩)⟩)))))))))
theorem M_readGives_144_b43 {d : Nat} {n1 : Int} {Q : MV → Wd → Prop} {w : Wd} (h : Cw d 182 [mR 144, mI 3] w (fun r w' => Wp (Cw d) cd_M_readGives (2, 0, n1) Q 46 [none, none, none] [r] w')) : Wp (Cw d) cd_M_readGives (2, 0, n1) Q 43 [mR 144, none, none] [] w :=
  Wp.s (Wp.s (Wp.s (Cw_mono _ _ _ _ _ _ (fun r w' q => Wp.fgd (leA.f (leA.f (leA.f leA.e))) q) h)))
theorem M_readGives_144_b46 {d : Nat} {n1 : Int} {Q : MV → Wd → Prop} {s0 : Int} {w : Wd} (g1 : s0 = 0 ∨ s0 = 1) (h : Q (mI s0) w) : Wp (Cw d) cd_M_readGives (2, 0, n1) Q 46 [none, none, none] [mI s0] w :=
  Wp.s ⟨g1, h⟩
theorem M_readGives_144_b47 {d : Nat} {n1 : Int} {Q : MV → Wd → Prop} {x1 x2 : Int} {w : Wd} (h : Cw d 175 [mR 144] w (fun _ w' => Wp (Cw d) cd_M_readGives (2, 0, n1) Q 49 [mR 144, mI x1, mI x2] [] w')) : Wp (Cw d) cd_M_readGives (2, 0, n1) Q 47 [mR 144, mI x1, mI x2] [] w :=
  Wp.s (Wp.s h)
theorem M_readGives_144_b49 {d : Nat} {n1 : Int} {Q : MV → Wd → Prop} {x1 x2 : Int} {w : Wd} (h : Cw d 186 [mR 144, mI 0, mI 99] w (fun r w' => Wp (Cw d) cd_M_readGives (2, 0, n1) Q 53 [mR 144, mI x1, mI x2] [r] w')) : Wp (Cw d) cd_M_readGives (2, 0, n1) Q 49 [mR 144, mI x1, mI x2] [] w :=
  Wp.s (Wp.s (Wp.s (Wp.s h)))
theorem M_readGives_144_b53 {d : Nat} {n1 : Int} {Q : MV → Wd → Prop} {x1 x2 s0 : Int} {w : Wd} (h1 : ¬ s0 = 0 → Wp (Cw d) cd_M_readGives (2, 0, n1) Q 56 [mR 144, mI x1, mI x2] [] w) (h2 : ¬ (¬ s0 = 0) → Wp (Cw d) cd_M_readGives (2, 0, n1) Q 54 [none, none, none] [] w) : Wp (Cw d) cd_M_readGives (2, 0, n1) Q 53 [mR 144, mI x1, mI x2] [mI s0] w :=
  Wp.s ⟨fun q => h1 q, fun q => Wp.fgd (leA.f (leA.f (leA.f leA.e))) (h2 q)⟩
theorem M_readGives_144_b54 {d : Nat} {n1 : Int} {Q : MV → Wd → Prop} {w : Wd} (h : Q (mI 0) w) : Wp (Cw d) cd_M_readGives (2, 0, n1) Q 54 [none, none, none] [] w :=
  Wp.s (Wp.s ⟨(Or.inl rfl), h⟩)
theorem M_readGives_144_b56 {d : Nat} {n1 : Int} {Q : MV → Wd → Prop} {x1 x2 : Int} {w : Wd} (g1 : (0 : Int) ≤ w32 ((w32 (141 + (w32 (8 * x1)))) + x2) ∧ w32 ((w32 (141 + (w32 (8 * x1)))) + x2) < 333) (h : Cw d 186 [mR 144, mI 0, mI 9] (ub w 147 (w32 ((w32 (141 + (w32 (8 * x1)))) + x2)).toNat (w 144 18)) (fun r w' => Wp (Cw d) cd_M_readGives (2, 0, n1) Q 72 [mR 144, mI x1, mI x2] [r] w')) : Wp (Cw d) cd_M_readGives (2, 0, n1) Q 56 [mR 144, mI x1, mI x2] [] w :=
  Wp.s (Wp.s (Wp.s (Wp.s (Wp.s (Wp.s (Wp.s (Wp.s (Wp.s (Wp.s (Wp.s (Wp.s ⟨g1, Wp.s (Wp.s (Wp.s (Wp.s h)))⟩)))))))))))
theorem M_readGives_144_b72 {d : Nat} {n1 : Int} {Q : MV → Wd → Prop} {x1 x2 s0 : Int} {w : Wd} (h1 : ¬ s0 = 0 → Wp (Cw d) cd_M_readGives (2, 0, n1) Q 75 [mR 144, mI x1, mI x2] [] w) (h2 : ¬ (¬ s0 = 0) → Wp (Cw d) cd_M_readGives (2, 0, n1) Q 73 [none, none, none] [] w) : Wp (Cw d) cd_M_readGives (2, 0, n1) Q 72 [mR 144, mI x1, mI x2] [mI s0] w :=
  Wp.s ⟨fun q => h1 q, fun q => Wp.fgd (leA.f (leA.f (leA.f leA.e))) (h2 q)⟩
theorem M_readGives_144_b73 {d : Nat} {n1 : Int} {Q : MV → Wd → Prop} {w : Wd} (h : Q (mI 0) w) : Wp (Cw d) cd_M_readGives (2, 0, n1) Q 73 [none, none, none] [] w :=
  Wp.s (Wp.s ⟨(Or.inl rfl), h⟩)
theorem M_readGives_144_b75 {d : Nat} {n1 : Int} {Q : MV → Wd → Prop} {x1 x2 : Int} {w : Wd} (g1 : (0 : Int) ≤ w32 ((w32 (205 + (w32 (8 * x1)))) + x2) ∧ w32 ((w32 (205 + (w32 (8 * x1)))) + x2) < 333) (g2 : (0 : Int) ≤ w32 ((w32 (269 + (w32 (8 * x1)))) + x2) ∧ w32 ((w32 (269 + (w32 (8 * x1)))) + x2) < 333) (h : Q (mI 1) (ub (ub w 147 (w32 ((w32 (205 + (w32 (8 * x1)))) + x2)).toNat (w 144 18)) 147 (w32 ((w32 (269 + (w32 (8 * x1)))) + x2)).toNat 1)) : Wp (Cw d) cd_M_readGives (2, 0, n1) Q 75 [mR 144, mI x1, mI x2] [] w :=
  Wp.s (Wp.s (Wp.s (Wp.s (Wp.s (Wp.s (Wp.s (Wp.s (Wp.s (Wp.s (Wp.s (Wp.s ⟨g1, Wp.s (Wp.s (Wp.s (Wp.s (Wp.s (Wp.s (Wp.s (Wp.s (Wp.s (Wp.s (Wp.s ⟨g2, Wp.s (Wp.s ⟨(Or.inr rfl), h⟩)⟩))))))))))⟩)))))))))))
theorem M_readLaw_144_b0 {d : Nat} {n1 : Int} {Q : MV → Wd → Prop} {w : Wd} (h1 : w 144 19 = 0 → Wp (Cw d) cd_M_readLaw (2, 0, n1) Q 7 [mR 144, none] [] w) (h2 : ¬ (w 144 19 = 0) → Wp (Cw d) cd_M_readLaw (2, 0, n1) Q 3 [mR 144, none] [] w) : Wp (Cw d) cd_M_readLaw (2, 0, n1) Q 0 [mR 144, none] [] w :=
  Wp.s (Wp.s (Wp.s ⟨fun q => h1 q, fun q => h2 q⟩))
theorem M_readLaw_144_b3 {d : Nat} {n1 : Int} {Q : MV → Wd → Prop} {w : Wd} (h : Cw d 182 [mR 144, mI 3] w (fun r w' => Wp (Cw d) cd_M_readLaw (2, 0, n1) Q 6 [none, none] [r] w')) : Wp (Cw d) cd_M_readLaw (2, 0, n1) Q 3 [mR 144, none] [] w :=
  Wp.s (Wp.s (Wp.s (Cw_mono _ _ _ _ _ _ (fun r w' q => Wp.fgd (leA.f (leA.f leA.e)) q) h)))
theorem M_readLaw_144_b6 {d : Nat} {n1 : Int} {Q : MV → Wd → Prop} {s0 : Int} {w : Wd} (g1 : s0 = 0 ∨ s0 = 1) (h : Q (mI s0) w) : Wp (Cw d) cd_M_readLaw (2, 0, n1) Q 6 [none, none] [mI s0] w :=
  Wp.s ⟨g1, h⟩
theorem M_readLaw_144_b7 {d : Nat} {n1 : Int} {Q : MV → Wd → Prop} {w : Wd} (h : Cw d 175 [mR 144] (ub w 144 19 1) (fun _ w' => Wp (Cw d) cd_M_readLaw (2, 0, n1) Q 12 [mR 144, none] [] w')) : Wp (Cw d) cd_M_readLaw (2, 0, n1) Q 7 [mR 144, none] [] w :=
  Wp.s (Wp.s (Wp.s ⟨(Or.inr rfl), Wp.s (Wp.s h)⟩))
theorem M_readLaw_144_b12 {d : Nat} {n1 : Int} {Q : MV → Wd → Prop} {w : Wd} (h : Cw d 186 [mR 144, mI 2, mI 6] w (fun r w' => Wp (Cw d) cd_M_readLaw (2, 0, n1) Q 16 [mR 144, none] [r] w')) : Wp (Cw d) cd_M_readLaw (2, 0, n1) Q 12 [mR 144, none] [] w :=
  Wp.s (Wp.s (Wp.s (Wp.s h)))
theorem M_readLaw_144_b16 {d : Nat} {n1 : Int} {Q : MV → Wd → Prop} {s0 : Int} {w : Wd} (h1 : ¬ s0 = 0 → Wp (Cw d) cd_M_readLaw (2, 0, n1) Q 19 [mR 144, none] [] w) (h2 : ¬ (¬ s0 = 0) → Wp (Cw d) cd_M_readLaw (2, 0, n1) Q 17 [none, none] [] w) : Wp (Cw d) cd_M_readLaw (2, 0, n1) Q 16 [mR 144, none] [mI s0] w :=
  Wp.s ⟨fun q => h1 q, fun q => Wp.fgd (leA.f (leA.f leA.e)) (h2 q)⟩
theorem M_readLaw_144_b17 {d : Nat} {n1 : Int} {Q : MV → Wd → Prop} {w : Wd} (h : Q (mI 0) w) : Wp (Cw d) cd_M_readLaw (2, 0, n1) Q 17 [none, none] [] w :=
  Wp.s (Wp.s ⟨(Or.inl rfl), h⟩)
theorem M_readLaw_144_b19 {d : Nat} {n1 : Int} {Q : MV → Wd → Prop} {w : Wd} (h : Cw d 180 [mR 144, mL 6385273] (ub w 147 4.toNat (w 144 18)) (fun r w' => Wp (Cw d) cd_M_readLaw (2, 0, n1) Q 28 [mR 144, none] [r] w')) : Wp (Cw d) cd_M_readLaw (2, 0, n1) Q 19 [mR 144, none] [] w :=
  Wp.s (Wp.s (Wp.s (Wp.s (Wp.s (Wp.s ⟨(by decide), Wp.s (Wp.s (Wp.s h))⟩)))))
theorem M_readLaw_144_b28 {d : Nat} {n1 : Int} {Q : MV → Wd → Prop} {s0 : Int} {w : Wd} (h1 : s0 = 0 → Wp (Cw d) cd_M_readLaw (2, 0, n1) Q 31 [mR 144, none] [] w) (h2 : ¬ (s0 = 0) → Wp (Cw d) cd_M_readLaw (2, 0, n1) Q 29 [mR 144, none] [] w) : Wp (Cw d) cd_M_readLaw (2, 0, n1) Q 28 [mR 144, none] [mI s0] w :=
  Wp.s ⟨fun q => h1 q, fun q => h2 q⟩
theorem M_readLaw_144_b29 {d : Nat} {n1 : Int} {Q : MV → Wd → Prop} {w : Wd} (h : Wp (Cw d) cd_M_readLaw (2, 0, n1) Q 50 [mR 144, none] [mI 0] w) : Wp (Cw d) cd_M_readLaw (2, 0, n1) Q 29 [mR 144, none] [] w :=
  Wp.s (Wp.s h)
theorem M_readLaw_144_b31 {d : Nat} {n1 : Int} {Q : MV → Wd → Prop} {w : Wd} (h : Cw d 180 [mR 144, mL 439855772532] w (fun r w' => Wp (Cw d) cd_M_readLaw (2, 0, n1) Q 34 [mR 144, none] [r] w')) : Wp (Cw d) cd_M_readLaw (2, 0, n1) Q 31 [mR 144, none] [] w :=
  Wp.s (Wp.s (Wp.s h))
theorem M_readLaw_144_b34 {d : Nat} {n1 : Int} {Q : MV → Wd → Prop} {s0 : Int} {w : Wd} (h1 : s0 = 0 → Wp (Cw d) cd_M_readLaw (2, 0, n1) Q 37 [mR 144, none] [] w) (h2 : ¬ (s0 = 0) → Wp (Cw d) cd_M_readLaw (2, 0, n1) Q 35 [mR 144, none] [] w) : Wp (Cw d) cd_M_readLaw (2, 0, n1) Q 34 [mR 144, none] [mI s0] w :=
  Wp.s ⟨fun q => h1 q, fun q => h2 q⟩
theorem M_readLaw_144_b35 {d : Nat} {n1 : Int} {Q : MV → Wd → Prop} {w : Wd} (h : Wp (Cw d) cd_M_readLaw (2, 0, n1) Q 50 [mR 144, none] [mI 1] w) : Wp (Cw d) cd_M_readLaw (2, 0, n1) Q 35 [mR 144, none] [] w :=
  Wp.s (Wp.s h)
theorem M_readLaw_144_b37 {d : Nat} {n1 : Int} {Q : MV → Wd → Prop} {w : Wd} (h : Cw d 180 [mR 144, mL 1869505381] w (fun r w' => Wp (Cw d) cd_M_readLaw (2, 0, n1) Q 40 [mR 144, none] [r] w')) : Wp (Cw d) cd_M_readLaw (2, 0, n1) Q 37 [mR 144, none] [] w :=
  Wp.s (Wp.s (Wp.s h))
theorem M_readLaw_144_b40 {d : Nat} {n1 : Int} {Q : MV → Wd → Prop} {s0 : Int} {w : Wd} (h1 : s0 = 0 → Wp (Cw d) cd_M_readLaw (2, 0, n1) Q 43 [mR 144, none] [] w) (h2 : ¬ (s0 = 0) → Wp (Cw d) cd_M_readLaw (2, 0, n1) Q 41 [mR 144, none] [] w) : Wp (Cw d) cd_M_readLaw (2, 0, n1) Q 40 [mR 144, none] [mI s0] w :=
  Wp.s ⟨fun q => h1 q, fun q => h2 q⟩
theorem M_readLaw_144_b41 {d : Nat} {n1 : Int} {Q : MV → Wd → Prop} {w : Wd} (h : Wp (Cw d) cd_M_readLaw (2, 0, n1) Q 50 [mR 144, none] [mI 2] w) : Wp (Cw d) cd_M_readLaw (2, 0, n1) Q 41 [mR 144, none] [] w :=
  Wp.s (Wp.s h)
theorem M_readLaw_144_b43 {d : Nat} {n1 : Int} {Q : MV → Wd → Prop} {w : Wd} (h : Cw d 180 [mR 144, mL 500086304371] w (fun r w' => Wp (Cw d) cd_M_readLaw (2, 0, n1) Q 46 [mR 144, none] [r] w')) : Wp (Cw d) cd_M_readLaw (2, 0, n1) Q 43 [mR 144, none] [] w :=
  Wp.s (Wp.s (Wp.s h))
theorem M_readLaw_144_b46 {d : Nat} {n1 : Int} {Q : MV → Wd → Prop} {s0 : Int} {w : Wd} (h1 : s0 = 0 → Wp (Cw d) cd_M_readLaw (2, 0, n1) Q 49 [mR 144, none] [] w) (h2 : ¬ (s0 = 0) → Wp (Cw d) cd_M_readLaw (2, 0, n1) Q 47 [mR 144, none] [] w) : Wp (Cw d) cd_M_readLaw (2, 0, n1) Q 46 [mR 144, none] [mI s0] w :=
  Wp.s ⟨fun q => h1 q, fun q => h2 q⟩
theorem M_readLaw_144_b47 {d : Nat} {n1 : Int} {Q : MV → Wd → Prop} {w : Wd} (h : Wp (Cw d) cd_M_readLaw (2, 0, n1) Q 50 [mR 144, none] [mI 3] w) : Wp (Cw d) cd_M_readLaw (2, 0, n1) Q 47 [mR 144, none] [] w :=
  Wp.s (Wp.s h)
theorem M_readLaw_144_b49 {d : Nat} {n1 : Int} {Q : MV → Wd → Prop} {w : Wd} (h : Wp (Cw d) cd_M_readLaw (2, 0, n1) Q 50 [mR 144, none] [mI ((-1))] w) : Wp (Cw d) cd_M_readLaw (2, 0, n1) Q 49 [mR 144, none] [] w :=
  Wp.s h
theorem M_readLaw_144_b50 {d : Nat} {n1 : Int} {Q : MV → Wd → Prop} {s0 : Int} {w : Wd} (h1 : 0 ≤ s0 → Wp (Cw d) cd_M_readLaw (2, 0, n1) Q 57 [mR 144, mI s0] [] w) (h2 : ¬ (0 ≤ s0) → Wp (Cw d) cd_M_readLaw (2, 0, n1) Q 53 [mR 144, none] [] w) : Wp (Cw d) cd_M_readLaw (2, 0, n1) Q 50 [mR 144, none] [mI s0] w :=
  Wp.s (Wp.s (Wp.s ⟨fun q => h1 q, fun q => Wp.fgd (leA.k (leA.f leA.e)) (h2 q)⟩))
theorem M_readLaw_144_b53 {d : Nat} {n1 : Int} {Q : MV → Wd → Prop} {w : Wd} (h : Cw d 182 [mR 144, mI 1] w (fun r w' => Wp (Cw d) cd_M_readLaw (2, 0, n1) Q 56 [none, none] [r] w')) : Wp (Cw d) cd_M_readLaw (2, 0, n1) Q 53 [mR 144, none] [] w :=
  Wp.s (Wp.s (Wp.s (Cw_mono _ _ _ _ _ _ (fun r w' q => Wp.fgd (leA.f (leA.f leA.e)) q) h)))
theorem M_readLaw_144_b56 {d : Nat} {n1 : Int} {Q : MV → Wd → Prop} {s0 : Int} {w : Wd} (g1 : s0 = 0 ∨ s0 = 1) (h : Q (mI s0) w) : Wp (Cw d) cd_M_readLaw (2, 0, n1) Q 56 [none, none] [mI s0] w :=
  Wp.s ⟨g1, h⟩
theorem M_readLaw_144_b57 {d : Nat} {n1 : Int} {Q : MV → Wd → Prop} {x1 : Int} {w : Wd} (h : Cw d 175 [mR 144] (ub w 147 5.toNat x1) (fun _ w' => Wp (Cw d) cd_M_readLaw (2, 0, n1) Q 64 [none, none] [] w')) : Wp (Cw d) cd_M_readLaw (2, 0, n1) Q 57 [mR 144, mI x1] [] w :=
  Wp.s (Wp.s (Wp.s (Wp.s (Wp.s ⟨(by decide), Wp.s (Wp.s (Cw_mono _ _ _ _ _ _ (fun r w' q => Wp.fgd (leA.f (leA.f leA.e)) q) h))⟩))))
theorem M_readLaw_144_b64 {d : Nat} {n1 : Int} {Q : MV → Wd → Prop} {w : Wd} (h : Q (mI 1) w) : Wp (Cw d) cd_M_readLaw (2, 0, n1) Q 64 [none, none] [] w :=
  Wp.s (Wp.s ⟨(Or.inr rfl), h⟩)
theorem M_bad_144_b0 {d : Nat} {n1 : Int} {Q : MV → Wd → Prop} {x1 : Int} {w : Wd} (h : Q (mI 0) (ub (ub w 144 15 x1) 144 16 ((up1 (w 144) 15 x1) 12))) : Wp (Cw d) cd_M_bad (2, 0, n1) Q 0 [mR 144, mI x1] [] w :=
  Wp.s (Wp.s (Wp.s (Wp.s (Wp.s (Wp.s (Wp.s (Wp.s (Wp.s ⟨(Or.inl rfl), h⟩))))))))
theorem M_isSign_144_b0 {d : Nat} {n1 : Int} {Q : MV → Wd → Prop} {x1 : Int} {w : Wd} (h1 : ¬ w 144 11 = 3 → Wp (Cw d) cd_M_isSign (2, 0, n1) Q 10 [none, none] [] w) (h2 : ¬ (¬ w 144 11 = 3) → Wp (Cw d) cd_M_isSign (2, 0, n1) Q 4 [mR 144, mI x1] [] w) : Wp (Cw d) cd_M_isSign (2, 0, n1) Q 0 [mR 144, mI x1] [] w :=
  Wp.s (Wp.s (Wp.s (Wp.s ⟨fun q => Wp.fgd (leA.f (leA.f leA.e)) (h1 q), fun q => h2 q⟩)))
theorem M_isSign_144_b4 {d : Nat} {n1 : Int} {Q : MV → Wd → Prop} {x1 : Int} {w : Wd} (h1 : ¬ w 144 14 = x1 → Wp (Cw d) cd_M_isSign (2, 0, n1) Q 10 [none, none] [] w) (h2 : ¬ (¬ w 144 14 = x1) → Wp (Cw d) cd_M_isSign (2, 0, n1) Q 8 [none, none] [] w) : Wp (Cw d) cd_M_isSign (2, 0, n1) Q 4 [mR 144, mI x1] [] w :=
  Wp.s (Wp.s (Wp.s (Wp.s ⟨fun q => Wp.fgd (leA.f (leA.f leA.e)) (h1 q), fun q => Wp.fgd (leA.f (leA.f leA.e)) (h2 q)⟩)))
theorem M_isSign_144_b8 {d : Nat} {n1 : Int} {Q : MV → Wd → Prop} {w : Wd} (h : Wp (Cw d) cd_M_isSign (2, 0, n1) Q 11 [none, none] [mI 1] w) : Wp (Cw d) cd_M_isSign (2, 0, n1) Q 8 [none, none] [] w :=
  Wp.s (Wp.s h)
theorem M_isSign_144_b10 {d : Nat} {n1 : Int} {Q : MV → Wd → Prop} {w : Wd} (h : Wp (Cw d) cd_M_isSign (2, 0, n1) Q 11 [none, none] [mI 0] w) : Wp (Cw d) cd_M_isSign (2, 0, n1) Q 10 [none, none] [] w :=
  Wp.s h
theorem M_isSign_144_b11 {d : Nat} {n1 : Int} {Q : MV → Wd → Prop} {s0 : Int} {w : Wd} (g1 : s0 = 0 ∨ s0 = 1) (h : Q (mI s0) w) : Wp (Cw d) cd_M_isSign (2, 0, n1) Q 11 [none, none] [mI s0] w :=
  Wp.s ⟨g1, h⟩
theorem Terms_reset_94_b0 {d : Nat} {n1 : Int} {Q : MV → Wd → Prop} {w : Wd} (h : Cw d 48 [mR 8, mR 95] (ub (ub w 94 1 (w 4 15)) 94 2 (w 4 16)) (fun _ w' => Wp (Cw d) cd_Terms_reset (0, 0, n1) Q 16 [mR 94] [] w')) : Wp (Cw d) cd_Terms_reset (0, 0, n1) Q 0 [mR 94] [] w :=
  Wp.s (Wp.s (Wp.s (Wp.s (Wp.s (Wp.s (Wp.s (Wp.s (Wp.s (Wp.s (Wp.s (Wp.s (Wp.s (Wp.s (Wp.s (Wp.s h)))))))))))))))
theorem Terms_reset_94_b16 {d : Nat} {n1 : Int} {Q : MV → Wd → Prop} {w : Wd} (h : Cw d 48 [mR 14, mR 96] w (fun _ w' => Wp (Cw d) cd_Terms_reset (0, 0, n1) Q 22 [mR 94] [] w')) : Wp (Cw d) cd_Terms_reset (0, 0, n1) Q 16 [mR 94] [] w :=
  Wp.s (Wp.s (Wp.s (Wp.s (Wp.s (Wp.s h)))))
theorem Terms_reset_94_b22 {d : Nat} {n1 : Int} {Q : MV → Wd → Prop} {w : Wd} (h : Cw d 48 [mR 15, mR 97] w (fun _ w' => Wp (Cw d) cd_Terms_reset (0, 0, n1) Q 28 [mR 94] [] w')) : Wp (Cw d) cd_Terms_reset (0, 0, n1) Q 22 [mR 94] [] w :=
  Wp.s (Wp.s (Wp.s (Wp.s (Wp.s (Wp.s h)))))
theorem Terms_reset_94_b28 {d : Nat} {n1 : Int} {Q : MV → Wd → Prop} {w : Wd} (h : Q none (ub (ub w 94 6 ((-1))) 94 7 ((-1)))) : Wp (Cw d) cd_Terms_reset (0, 0, n1) Q 28 [mR 94] [] w :=
  Wp.s (Wp.s (Wp.s (Wp.s (Wp.s (Wp.s (Wp.s h))))))
theorem Meeting_weigh_92_b0 {d : Nat} {n1 : Int} {Q : MV → Wd → Prop} {w : Wd} (h : Cw d 58 [mR 93] w (fun _ w' => Wp (Cw d) cd_Meeting_weigh (0, 0, n1) Q 3 [mR 92] [] w')) : Wp (Cw d) cd_Meeting_weigh (0, 0, n1) Q 0 [mR 92] [] w :=
  Wp.s (Wp.s (Wp.s h))
theorem Meeting_weigh_92_b3 {d : Nat} {n1 : Int} {Q : MV → Wd → Prop} {w : Wd} (h : Cw d 69 [mR 92, mI 0] w (fun _ w' => Wp (Cw d) cd_Meeting_weigh (0, 0, n1) Q 6 [mR 92] [] w')) : Wp (Cw d) cd_Meeting_weigh (0, 0, n1) Q 3 [mR 92] [] w :=
  Wp.s (Wp.s (Wp.s h))
theorem Meeting_weigh_92_b6 {d : Nat} {n1 : Int} {Q : MV → Wd → Prop} {w : Wd} (h : Cw d 72 [mR 92] w (fun _ w' => Wp (Cw d) cd_Meeting_weigh (0, 0, n1) Q 8 [none] [] w')) : Wp (Cw d) cd_Meeting_weigh (0, 0, n1) Q 6 [mR 92] [] w :=
  Wp.s (Wp.s (Cw_mono _ _ _ _ _ _ (fun r w' q => Wp.fgd (leA.f leA.e) q) h))
theorem Meeting_weigh_92_b8 {d : Nat} {n1 : Int} {Q : MV → Wd → Prop} {w : Wd} (h : Q none w) : Wp (Cw d) cd_Meeting_weigh (0, 0, n1) Q 8 [none] [] w :=
  Wp.s h
theorem Ways_handOf_b0 {d : Nat} {n1 : Int} {Q : MV → Wd → Prop} {x0 x1 x2 : Int} {w : Wd} (h : Q (mI (iand (ishr x0 (w32 (3 * (w32 ((w32 (x2 - 1)) - x1))))) 7)) w) : Wp (Cw d) cd_Ways_handOf (1, 0, n1) Q 0 [mI x0, mI x1, mI x2] [] w :=
  Wp.s (Wp.s (Wp.s (Wp.s (Wp.s (Wp.s (Wp.s (Wp.s (Wp.s (Wp.s (Wp.s (Wp.s h)))))))))))
theorem M_areFirsts_144_b0 {d : Nat} {n1 : Int} {Q : MV → Wd → Prop} {x1 : Int} {w : Wd} (g1 : (0 : Int) ≤ w32 ((w32 (29 + (w32 (5 * x1)))) + 2) ∧ w32 ((w32 (29 + (w32 (5 * x1)))) + 2) < 645) (h : Cw d 211 [mI (w 144 27), mI (w 146 (w32 ((w32 (29 + (w32 (5 * x1)))) + 2)).toNat)] w (fun r w' => Wp (Cw d) cd_M_areFirsts (2, 0, n1) Q 13 [mR 144, mI x1] [r] w')) : Wp (Cw d) cd_M_areFirsts (2, 0, n1) Q 0 [mR 144, mI x1] [] w :=
  Wp.s (Wp.s (Wp.s (Wp.s (Wp.s (Wp.s (Wp.s (Wp.s (Wp.s (Wp.s (Wp.s (Wp.s ⟨g1, Wp.s h⟩)))))))))))
theorem M_areFirsts_144_b13 {d : Nat} {n1 : Int} {Q : MV → Wd → Prop} {x1 s0 : Int} {w : Wd} (h1 : s0 = 0 → Wp (Cw d) cd_M_areFirsts (2, 0, n1) Q 41 [none, none] [] w) (h2 : ¬ (s0 = 0) → Wp (Cw d) cd_M_areFirsts (2, 0, n1) Q 14 [mR 144, mI x1] [] w) : Wp (Cw d) cd_M_areFirsts (2, 0, n1) Q 13 [mR 144, mI x1] [mI s0] w :=
  Wp.s ⟨fun q => Wp.fgd (leA.f (leA.f leA.e)) (h1 q), fun q => h2 q⟩
theorem M_areFirsts_144_b14 {d : Nat} {n1 : Int} {Q : MV → Wd → Prop} {x1 : Int} {w : Wd} (g1 : (0 : Int) ≤ w32 ((w32 (29 + (w32 (5 * x1)))) + 3) ∧ w32 ((w32 (29 + (w32 (5 * x1)))) + 3) < 645) (h1 : w 146 (w32 ((w32 (29 + (w32 (5 * x1)))) + 3)).toNat < 0 → Wp (Cw d) cd_M_areFirsts (2, 0, n1) Q 39 [none, none] [] w) (h2 : ¬ (w 146 (w32 ((w32 (29 + (w32 (5 * x1)))) + 3)).toNat < 0) → Wp (Cw d) cd_M_areFirsts (2, 0, n1) Q 25 [mR 144, mI x1] [] w) : Wp (Cw d) cd_M_areFirsts (2, 0, n1) Q 14 [mR 144, mI x1] [] w :=
  Wp.s (Wp.s (Wp.s (Wp.s (Wp.s (Wp.s (Wp.s (Wp.s (Wp.s (Wp.s ⟨g1, Wp.s ⟨fun q => Wp.fgd (leA.f (leA.f leA.e)) (h1 q), fun q => h2 q⟩⟩)))))))))
theorem M_areFirsts_144_b25 {d : Nat} {n1 : Int} {Q : MV → Wd → Prop} {x1 : Int} {w : Wd} (g1 : (0 : Int) ≤ w32 ((w32 (29 + (w32 (5 * x1)))) + 3) ∧ w32 ((w32 (29 + (w32 (5 * x1)))) + 3) < 645) (h : Cw d 211 [mI (w 144 27), mI (w 146 (w32 ((w32 (29 + (w32 (5 * x1)))) + 3)).toNat)] w (fun r w' => Wp (Cw d) cd_M_areFirsts (2, 0, n1) Q 38 [none, none] [r] w')) : Wp (Cw d) cd_M_areFirsts (2, 0, n1) Q 25 [mR 144, mI x1] [] w :=
  Wp.s (Wp.s (Wp.s (Wp.s (Wp.s (Wp.s (Wp.s (Wp.s (Wp.s (Wp.s (Wp.s (Wp.s ⟨g1, Wp.s (Cw_mono _ _ _ _ _ _ (fun r w' q => Wp.fgd (leA.f (leA.f leA.e)) q) h)⟩)))))))))))
theorem M_areFirsts_144_b38 {d : Nat} {n1 : Int} {Q : MV → Wd → Prop} {s0 : Int} {w : Wd} (h1 : s0 = 0 → Wp (Cw d) cd_M_areFirsts (2, 0, n1) Q 41 [none, none] [] w) (h2 : ¬ (s0 = 0) → Wp (Cw d) cd_M_areFirsts (2, 0, n1) Q 39 [none, none] [] w) : Wp (Cw d) cd_M_areFirsts (2, 0, n1) Q 38 [none, none] [mI s0] w :=
  Wp.s ⟨fun q => h1 q, fun q => h2 q⟩
theorem M_areFirsts_144_b39 {d : Nat} {n1 : Int} {Q : MV → Wd → Prop} {w : Wd} (h : Wp (Cw d) cd_M_areFirsts (2, 0, n1) Q 42 [none, none] [mI 1] w) : Wp (Cw d) cd_M_areFirsts (2, 0, n1) Q 39 [none, none] [] w :=
  Wp.s (Wp.s h)
theorem M_areFirsts_144_b41 {d : Nat} {n1 : Int} {Q : MV → Wd → Prop} {w : Wd} (h : Wp (Cw d) cd_M_areFirsts (2, 0, n1) Q 42 [none, none] [mI 0] w) : Wp (Cw d) cd_M_areFirsts (2, 0, n1) Q 41 [none, none] [] w :=
  Wp.s h
theorem M_areFirsts_144_b42 {d : Nat} {n1 : Int} {Q : MV → Wd → Prop} {s0 : Int} {w : Wd} (g1 : s0 = 0 ∨ s0 = 1) (h : Q (mI s0) w) : Wp (Cw d) cd_M_areFirsts (2, 0, n1) Q 42 [none, none] [mI s0] w :=
  Wp.s ⟨g1, h⟩
theorem M_weighUnit_144_b0 {d : Nat} {n1 : Int} {Q : MV → Wd → Prop} {x1 : Int} {w : Wd} (h : Wp (Cw d) cd_M_weighUnit (0, 0, n1) Q 2 [mR 144, mI x1, mI 0, none, none, none, none, none] [] w) : Wp (Cw d) cd_M_weighUnit (0, 0, n1) Q 0 [mR 144, mI x1, none, none, none, none, none, none] [] w :=
  Wp.s (Wp.s h)
theorem M_weighUnit_144_b2 {d : Nat} {n1 : Int} {Q : MV → Wd → Prop} {x1 x2 : Int} {w : Wd} (h1 : 8 ≤ x2 → Wp (Cw d) cd_M_weighUnit (0, 0, n1) Q 16 [mR 144, mI x1, none, none, none, none, none, none] [] w) (h2 : ¬ (8 ≤ x2) → Wp (Cw d) cd_M_weighUnit (0, 0, n1) Q 5 [mR 144, mI x1, mI x2, none, none, none, none, none] [] w) : Wp (Cw d) cd_M_weighUnit (0, 0, n1) Q 2 [mR 144, mI x1, mI x2, none, none, none, none, none] [] w :=
  Wp.s (Wp.s (Wp.s ⟨fun q => Wp.fgd (leA.k (leA.k (leA.f (leA.f (leA.f (leA.f (leA.f (leA.f leA.e)))))))) (h1 q), fun q => h2 q⟩))
theorem M_weighUnit_144_b5 {d : Nat} {n1 : Int} {Q : MV → Wd → Prop} {x1 x2 : Int} {w : Wd} (g1 : (0 : Int) ≤ w32 ((w32 (8 * x1)) + x2) ∧ w32 ((w32 (8 * x1)) + x2) < 128) (h : Wp (Cw d) cd_M_weighUnit (0, 0, n1) Q 2 [mR 144, mI x1, mI (w32 (x2 + 1)), none, none, none, none, none] [] (ub w 161 (w32 ((w32 (8 * x1)) + x2)).toNat 1000000000)) : Wp (Cw d) cd_M_weighUnit (0, 0, n1) Q 5 [mR 144, mI x1, mI x2, none, none, none, none, none] [] w :=
  Wp.s (Wp.s (Wp.s (Wp.s (Wp.s (Wp.s (Wp.s (Wp.s (Wp.s ⟨g1, Wp.s (Wp.s h)⟩))))))))
theorem M_weighUnit_144_b16 {d : Nat} {n1 : Int} {Q : MV → Wd → Prop} {x1 : Int} {w : Wd} (g1 : (0 : Int) ≤ w32 ((w32 (29 + (w32 (5 * x1)))) + 4) ∧ w32 ((w32 (29 + (w32 (5 * x1)))) + 4) < 645) (h : Cw d 213 [mR 144, mI (w 144 25)] w (fun _ w' => Wp (Cw d) cd_M_weighUnit (0, 0, n1) Q 31 [mR 144, mI x1, mI (w 146 (w32 ((w32 (29 + (w32 (5 * x1)))) + 4)).toNat), none, none, none, none, none] [] w')) : Wp (Cw d) cd_M_weighUnit (0, 0, n1) Q 16 [mR 144, mI x1, none, none, none, none, none, none] [] w :=
  Wp.s (Wp.s (Wp.s (Wp.s (Wp.s (Wp.s (Wp.s (Wp.s (Wp.s (Wp.s ⟨g1, Wp.s (Wp.s (Wp.s (Wp.s (Wp.s h))))⟩)))))))))
theorem M_weighUnit_144_b31 {d : Nat} {n1 : Int} {Q : MV → Wd → Prop} {x1 x2 : Int} {w : Wd} (h : Cw d 202 [mR 144, mI x1] w (fun r w' => Wp (Cw d) cd_M_weighUnit (0, 0, n1) Q 39 [mR 144, mI x1, mI x2, none, none, none, none, none] [r, mI 23, mR 146, mI x1, mR 144] w')) : Wp (Cw d) cd_M_weighUnit (0, 0, n1) Q 31 [mR 144, mI x1, mI x2, none, none, none, none, none] [] w :=
  Wp.s (Wp.s (Wp.s (Wp.s (Wp.s (Wp.s (Wp.s (Wp.s h)))))))
theorem M_weighUnit_144_b39 {d : Nat} {n1 : Int} {Q : MV → Wd → Prop} {x1 x2 s0 s1 s3 : Int} {w : Wd} (g1 : (0 : Int) ≤ w32 (s1 + s0) ∧ w32 (s1 + s0) < 645) (h : Cw d 214 [mR 144, mI s3, mI (w32 ((w 146 (w32 (s1 + s0)).toNat) - 1))] w (fun r w' => Wp (Cw d) cd_M_weighUnit (0, 0, n1) Q 44 [mR 144, mI x1, mI x2, none, none, none, none, none] [r] w')) : Wp (Cw d) cd_M_weighUnit (0, 0, n1) Q 39 [mR 144, mI x1, mI x2, none, none, none, none, none] [mI s0, mI s1, mR 146, mI s3, mR 144] w :=
  Wp.s (Wp.s ⟨g1, Wp.s (Wp.s (Wp.s h))⟩)
theorem M_weighUnit_144_b44 {d : Nat} {n1 : Int} {Q : MV → Wd → Prop} {x1 x2 s0 : Int} {w : Wd} (h1 : s0 = 0 → Wp (Cw d) cd_M_weighUnit (0, 0, n1) Q 187 [none, none, none, none, none, none, none, none] [] w) (h2 : ¬ (s0 = 0) → Wp (Cw d) cd_M_weighUnit (0, 0, n1) Q 45 [mR 144, mI x1, mI x2, none, none, none, none, none] [] w) : Wp (Cw d) cd_M_weighUnit (0, 0, n1) Q 44 [mR 144, mI x1, mI x2, none, none, none, none, none] [mI s0] w :=
  Wp.s ⟨fun q => Wp.fgd (leA.f (leA.f (leA.f (leA.f (leA.f (leA.f (leA.f (leA.f leA.e)))))))) (h1 q), fun q => h2 q⟩
theorem M_weighUnit_144_b45 {d : Nat} {n1 : Int} {Q : MV → Wd → Prop} {x1 x2 : Int} {w : Wd} (h : Wp (Cw d) cd_M_weighUnit (0, 0, n1) Q 52 [mR 144, mI x1, mI x2, mI (w32 ((w 144 25) - 1)), mI 0, none, none, none] [] w) : Wp (Cw d) cd_M_weighUnit (0, 0, n1) Q 45 [mR 144, mI x1, mI x2, none, none, none, none, none] [] w :=
  Wp.s (Wp.s (Wp.s (Wp.s (Wp.s (Wp.s (Wp.s h))))))
theorem M_weighUnit_144_b52 {d : Nat} {n1 : Int} {Q : MV → Wd → Prop} {x1 x2 x3 x4 : Int} {w : Wd} (h1 : w 146 3.toNat ≤ x4 → Wp (Cw d) cd_M_weighUnit (0, 0, n1) Q 186 [mR 144, mI x1, mI x2, none, none, none, none, none] [] w) (h2 : ¬ (w 146 3.toNat ≤ x4) → Wp (Cw d) cd_M_weighUnit (0, 0, n1) Q 58 [mR 144, mI x1, mI x2, mI x3, mI x4, none, none, none] [] w) : Wp (Cw d) cd_M_weighUnit (0, 0, n1) Q 52 [mR 144, mI x1, mI x2, mI x3, mI x4, none, none, none] [] w :=
  Wp.s (Wp.s (Wp.s (Wp.s (Wp.s ⟨(by decide), Wp.s ⟨fun q => Wp.fgd (leA.k (leA.k (leA.k (leA.f (leA.f (leA.f (leA.f (leA.f leA.e)))))))) (h1 q), fun q => h2 q⟩⟩))))
theorem M_weighUnit_144_b58 {d : Nat} {n1 : Int} {Q : MV → Wd → Prop} {x1 x2 x3 x4 : Int} {w : Wd} (g1 : (0 : Int) ≤ w32 (109 + (w32 (4 * x4))) ∧ w32 (109 + (w32 (4 * x4))) < 645) (g2 : (0 : Int) ≤ x3 ∧ x3 < 6) (h1 : ¬ w 146 (w32 (109 + (w32 (4 * x4)))).toNat = w 155 x3.toNat → Wp (Cw d) cd_M_weighUnit (0, 0, n1) Q 184 [mR 144, mI x1, mI x2, mI x3, mI x4, none, none, none] [] w) (h2 : ¬ (¬ w 146 (w32 (109 + (w32 (4 * x4)))).toNat = w 155 x3.toNat) → Wp (Cw d) cd_M_weighUnit (0, 0, n1) Q 71 [mR 144, mI x1, mI x2, mI x3, mI x4, none, none, none] [] w) : Wp (Cw d) cd_M_weighUnit (0, 0, n1) Q 58 [mR 144, mI x1, mI x2, mI x3, mI x4, none, none, none] [] w :=
  Wp.s (Wp.s (Wp.s (Wp.s (Wp.s (Wp.s (Wp.s (Wp.s ⟨g1, Wp.s (Wp.s (Wp.s (Wp.s ⟨g2, Wp.s ⟨fun q => h1 q, fun q => h2 q⟩⟩)))⟩)))))))
theorem M_weighUnit_144_b71 {d : Nat} {n1 : Int} {Q : MV → Wd → Prop} {x1 x2 x3 x4 : Int} {w : Wd} (g1 : (0 : Int) ≤ w32 ((w32 (109 + (w32 (4 * x4)))) + 1) ∧ w32 ((w32 (109 + (w32 (4 * x4)))) + 1) < 645) (h : Cw d 202 [mR 144, mI x1] w (fun r w' => Wp (Cw d) cd_M_weighUnit (0, 0, n1) Q 84 [mR 144, mI x1, mI x2, mI x3, mI x4, none, none, none] [r, mI (w 146 (w32 ((w32 (109 + (w32 (4 * x4)))) + 1)).toNat)] w')) : Wp (Cw d) cd_M_weighUnit (0, 0, n1) Q 71 [mR 144, mI x1, mI x2, mI x3, mI x4, none, none, none] [] w :=
  Wp.s (Wp.s (Wp.s (Wp.s (Wp.s (Wp.s (Wp.s (Wp.s (Wp.s (Wp.s ⟨g1, Wp.s (Wp.s (Wp.s h))⟩)))))))))
theorem M_weighUnit_144_b84 {d : Nat} {n1 : Int} {Q : MV → Wd → Prop} {x1 x2 x3 x4 s0 s1 : Int} {w : Wd} (h1 : ¬ s1 = s0 → Wp (Cw d) cd_M_weighUnit (0, 0, n1) Q 184 [mR 144, mI x1, mI x2, mI x3, mI x4, none, none, none] [] w) (h2 : ¬ (¬ s1 = s0) → Wp (Cw d) cd_M_weighUnit (0, 0, n1) Q 85 [mR 144, mI x1, mI x2, mI x3, mI x4, none, none, none] [] w) : Wp (Cw d) cd_M_weighUnit (0, 0, n1) Q 84 [mR 144, mI x1, mI x2, mI x3, mI x4, none, none, none] [mI s0, mI s1] w :=
  Wp.s ⟨fun q => h1 q, fun q => h2 q⟩
theorem M_weighUnit_144_b85 {d : Nat} {n1 : Int} {Q : MV → Wd → Prop} {x1 x2 x3 x4 : Int} {w : Wd} (g1 : (0 : Int) ≤ x3 ∧ x3 < 6) (h : Cw d 219 [mR 144, mI x1, mI x4] w (fun r w' => Wp (Cw d) cd_M_weighUnit (0, 0, n1) Q 95 [mR 144, mI x1, mI x2, mI x3, mI x4, none, none, none] [r, mI (w32 (x2 + (w 157 x3.toNat)))] w')) : Wp (Cw d) cd_M_weighUnit (0, 0, n1) Q 85 [mR 144, mI x1, mI x2, mI x3, mI x4, none, none, none] [] w :=
  Wp.s (Wp.s (Wp.s (Wp.s (Wp.s ⟨g1, Wp.s (Wp.s (Wp.s (Wp.s (Wp.s h))))⟩))))
theorem M_weighUnit_144_b95 {d : Nat} {n1 : Int} {Q : MV → Wd → Prop} {x1 x2 x3 x4 s0 s1 : Int} {w : Wd} (h1 : s1 ≤ s0 → Wp (Cw d) cd_M_weighUnit (0, 0, n1) Q 97 [mR 144, mI x1, mI x2, mI x3, mI x4, none, none, none] [] w) (h2 : ¬ (s1 ≤ s0) → Wp (Cw d) cd_M_weighUnit (0, 0, n1) Q 96 [mR 144, mI x1, mI x2, mI x3, mI x4, none, none, none] [] w) : Wp (Cw d) cd_M_weighUnit (0, 0, n1) Q 95 [mR 144, mI x1, mI x2, mI x3, mI x4, none, none, none] [mI s0, mI s1] w :=
  Wp.s ⟨fun q => h1 q, fun q => h2 q⟩
theorem M_weighUnit_144_b96 {d : Nat} {n1 : Int} {Q : MV → Wd → Prop} {x1 x2 x3 x4 : Int} {w : Wd} (h : Wp (Cw d) cd_M_weighUnit (0, 0, n1) Q 184 [mR 144, mI x1, mI x2, mI x3, mI x4, none, none, none] [] w) : Wp (Cw d) cd_M_weighUnit (0, 0, n1) Q 96 [mR 144, mI x1, mI x2, mI x3, mI x4, none, none, none] [] w :=
  Wp.s h
theorem M_weighUnit_144_b97 {d : Nat} {n1 : Int} {Q : MV → Wd → Prop} {x1 x2 x3 x4 : Int} {w : Wd} (g1 : (0 : Int) ≤ x3 ∧ x3 < 6) (g2 : (0 : Int) ≤ x3 ∧ x3 < 6) (g3 : (0 : Int) ≤ w32 ((w32 (8 * x1)) + x4) ∧ w32 ((w32 (8 * x1)) + x4) < 128) (h1 : w 161 (w32 ((w32 (8 * x1)) + x4)).toNat < w32 ((w 158 x3.toNat) + (w 159 x3.toNat)) → Wp (Cw d) cd_M_weighUnit (0, 0, n1) Q 184 [mR 144, mI x1, mI x2, mI x3, mI x4, none, none, none] [] w) (h2 : ¬ (w 161 (w32 ((w32 (8 * x1)) + x4)).toNat < w32 ((w 158 x3.toNat) + (w 159 x3.toNat))) → Wp (Cw d) cd_M_weighUnit (0, 0, n1) Q 119 [mR 144, mI x1, mI x2, mI x3, mI x4, mI (w32 ((w 158 x3.toNat) + (w 159 x3.toNat))), mI (w32 ((w32 (8 * x1)) + x4)), none] [] w) : Wp (Cw d) cd_M_weighUnit (0, 0, n1) Q 97 [mR 144, mI x1, mI x2, mI x3, mI x4, none, none, none] [] w :=
  Wp.s (Wp.s (Wp.s (Wp.s ⟨g1, Wp.s (Wp.s (Wp.s (Wp.s ⟨g2, Wp.s (Wp.s (Wp.s (Wp.s (Wp.s (Wp.s (Wp.s (Wp.s (Wp.s (Wp.s (Wp.s (Wp.s (Wp.s ⟨g3, Wp.s ⟨fun q => Wp.fgd (leA.k (leA.k (leA.k (leA.k (leA.k (leA.f (leA.f (leA.f leA.e)))))))) (h1 q), fun q => h2 q⟩⟩))))))))))))⟩)))⟩)))
theorem M_weighUnit_144_b119 {d : Nat} {n1 : Int} {Q : MV → Wd → Prop} {x1 x2 x3 x4 x5 x6 : Int} {w : Wd} (g1 : (0 : Int) ≤ x6 ∧ x6 < 128) (h1 : ¬ x5 = w 161 x6.toNat → Wp (Cw d) cd_M_weighUnit (0, 0, n1) Q 135 [mR 144, mI x1, mI x2, mI x3, mI x4, mI x5, mI x6, none] [] w) (h2 : ¬ (¬ x5 = w 161 x6.toNat) → Wp (Cw d) cd_M_weighUnit (0, 0, n1) Q 125 [mR 144, mI x1, mI x2, mI x3, mI x4, mI x5, mI x6, none] [] w) : Wp (Cw d) cd_M_weighUnit (0, 0, n1) Q 119 [mR 144, mI x1, mI x2, mI x3, mI x4, mI x5, mI x6, none] [] w :=
  Wp.s (Wp.s (Wp.s (Wp.s (Wp.s ⟨g1, Wp.s ⟨fun q => h1 q, fun q => h2 q⟩⟩))))
theorem M_weighUnit_144_b125 {d : Nat} {n1 : Int} {Q : MV → Wd → Prop} {x1 x2 x3 x4 x5 x6 : Int} {w : Wd} (g1 : (0 : Int) ≤ x3 ∧ x3 < 6) (g2 : (0 : Int) ≤ x6 ∧ x6 < 128) (h1 : w 157 x3.toNat < w 162 x6.toNat → Wp (Cw d) cd_M_weighUnit (0, 0, n1) Q 135 [mR 144, mI x1, mI x2, mI x3, mI x4, mI x5, mI x6, none] [] w) (h2 : ¬ (w 157 x3.toNat < w 162 x6.toNat) → Wp (Cw d) cd_M_weighUnit (0, 0, n1) Q 134 [mR 144, mI x1, mI x2, mI x3, mI x4, none, none, none] [] w) : Wp (Cw d) cd_M_weighUnit (0, 0, n1) Q 125 [mR 144, mI x1, mI x2, mI x3, mI x4, mI x5, mI x6, none] [] w :=
  Wp.s (Wp.s (Wp.s (Wp.s ⟨g1, Wp.s (Wp.s (Wp.s (Wp.s ⟨g2, Wp.s ⟨fun q => h1 q, fun q => Wp.fgd (leA.k (leA.k (leA.k (leA.k (leA.k (leA.f (leA.f (leA.f leA.e)))))))) (h2 q)⟩⟩)))⟩)))
theorem M_weighUnit_144_b134 {d : Nat} {n1 : Int} {Q : MV → Wd → Prop} {x1 x2 x3 x4 : Int} {w : Wd} (h : Wp (Cw d) cd_M_weighUnit (0, 0, n1) Q 184 [mR 144, mI x1, mI x2, mI x3, mI x4, none, none, none] [] w) : Wp (Cw d) cd_M_weighUnit (0, 0, n1) Q 134 [mR 144, mI x1, mI x2, mI x3, mI x4, none, none, none] [] w :=
  Wp.s h
theorem M_weighUnit_144_b135 {d : Nat} {n1 : Int} {Q : MV → Wd → Prop} {x1 x2 x3 x4 x5 x6 : Int} {w : Wd} (g1 : (0 : Int) ≤ x6 ∧ x6 < 128) (g2 : (0 : Int) ≤ x3 ∧ x3 < 6) (g3 : (0 : Int) ≤ x6 ∧ x6 < 128) (g4 : (0 : Int) ≤ x3 ∧ x3 < 6) (g5 : (0 : Int) ≤ x6 ∧ x6 < 128) (g6 : (0 : Int) ≤ x6 ∧ x6 < 128) (h : Wp (Cw d) cd_M_weighUnit (0, 0, n1) Q 163 [mR 144, mI x1, mI x2, mI x3, mI x4, none, mI x6, mI 0] [] (ub (ub (ub (ub w 161 x6.toNat x5) 162 x6.toNat (w 157 x3.toNat)) 163 x6.toNat (w 158 x3.toNat)) 164 x6.toNat 0)) : Wp (Cw d) cd_M_weighUnit (0, 0, n1) Q 135 [mR 144, mI x1, mI x2, mI x3, mI x4, mI x5, mI x6, none] [] w :=
  Wp.s (Wp.s (Wp.s (Wp.s (Wp.s ⟨g1, Wp.s (Wp.s (Wp.s (Wp.s (Wp.s (Wp.s (Wp.s ⟨g2, Wp.s ⟨g3, Wp.s (Wp.s (Wp.s (Wp.s (Wp.s (Wp.s (Wp.s ⟨g4, Wp.s ⟨g5, Wp.s (Wp.s (Wp.s (Wp.s (Wp.s ⟨g6, Wp.s (Wp.s (Wp.fgd (leA.k (leA.k (leA.k (leA.k (leA.k (leA.f (leA.k (leA.k leA.e)))))))) h))⟩))))⟩⟩))))))⟩⟩))))))⟩))))
theorem M_weighUnit_144_b163 {d : Nat} {n1 : Int} {Q : MV → Wd → Prop} {x1 x2 x3 x4 x6 x7 : Int} {w : Wd} (h1 : w 144 25 ≤ x7 → Wp (Cw d) cd_M_weighUnit (0, 0, n1) Q 184 [mR 144, mI x1, mI x2, mI x3, mI x4, none, none, none] [] w) (h2 : ¬ (w 144 25 ≤ x7) → Wp (Cw d) cd_M_weighUnit (0, 0, n1) Q 167 [mR 144, mI x1, mI x2, mI x3, mI x4, none, mI x6, mI x7] [] w) : Wp (Cw d) cd_M_weighUnit (0, 0, n1) Q 163 [mR 144, mI x1, mI x2, mI x3, mI x4, none, mI x6, mI x7] [] w :=
  Wp.s (Wp.s (Wp.s (Wp.s ⟨fun q => Wp.fgd (leA.k (leA.k (leA.k (leA.k (leA.k (leA.f (leA.f (leA.f leA.e)))))))) (h1 q), fun q => h2 q⟩)))
theorem M_weighUnit_144_b167 {d : Nat} {n1 : Int} {Q : MV → Wd → Prop} {x1 x2 x3 x4 x6 x7 : Int} {w : Wd} (g1 : (0 : Int) ≤ x6 ∧ x6 < 128) (g2 : (0 : Int) ≤ x7 ∧ x7 < 6) (g3 : (0 : Int) ≤ x6 ∧ x6 < 128) (h : Wp (Cw d) cd_M_weighUnit (0, 0, n1) Q 163 [mR 144, mI x1, mI x2, mI x3, mI x4, none, mI x6, mI (w32 (x7 + 1))] [] (ub w 164 x6.toNat (ior (w 164 x6.toNat) (ishl (w 155 x7.toNat) (w32 (3 * x7)))))) : Wp (Cw d) cd_M_weighUnit (0, 0, n1) Q 167 [mR 144, mI x1, mI x2, mI x3, mI x4, none, mI x6, mI x7] [] w :=
  Wp.s (Wp.s (Wp.s (Wp.s (Wp.s ⟨g1, Wp.s (Wp.s (Wp.s (Wp.s ⟨g2, Wp.s (Wp.s (Wp.s (Wp.s (Wp.s (Wp.s ⟨g3, Wp.s (Wp.s h)⟩)))))⟩)))⟩))))
theorem M_weighUnit_144_b184 {d : Nat} {n1 : Int} {Q : MV → Wd → Prop} {x1 x2 x3 x4 : Int} {w : Wd} (h : Wp (Cw d) cd_M_weighUnit (0, 0, n1) Q 52 [mR 144, mI x1, mI x2, mI x3, mI (w32 (x4 + 1)), none, none, none] [] w) : Wp (Cw d) cd_M_weighUnit (0, 0, n1) Q 184 [mR 144, mI x1, mI x2, mI x3, mI x4, none, none, none] [] w :=
  Wp.s (Wp.s h)
theorem M_weighUnit_144_b186 {d : Nat} {n1 : Int} {Q : MV → Wd → Prop} {x1 x2 : Int} {w : Wd} (h : Wp (Cw d) cd_M_weighUnit (0, 0, n1) Q 31 [mR 144, mI x1, mI x2, none, none, none, none, none] [] w) : Wp (Cw d) cd_M_weighUnit (0, 0, n1) Q 186 [mR 144, mI x1, mI x2, none, none, none, none, none] [] w :=
  Wp.s h
theorem M_weighUnit_144_b187 {d : Nat} {n1 : Int} {Q : MV → Wd → Prop} {w : Wd} (h : Q none w) : Wp (Cw d) cd_M_weighUnit (0, 0, n1) Q 187 [none, none, none, none, none, none, none, none] [] w :=
  Wp.s h
theorem Meeting_lookAround_92_b0 {d : Nat} {n1 : Int} {Q : MV → Wd → Prop} {w : Wd} (h : Wp (Cw d) cd_Meeting_lookAround (0, 0, n1) Q 7 [mR 92, mI 0, none] [] (ub w 109 0.toNat 0)) : Wp (Cw d) cd_Meeting_lookAround (0, 0, n1) Q 0 [mR 92, none, none] [] w :=
  Wp.s (Wp.s (Wp.s (Wp.s (Wp.s ⟨(by decide), Wp.s (Wp.s h)⟩))))
theorem Meeting_lookAround_92_b7 {d : Nat} {n1 : Int} {Q : MV → Wd → Prop} {x1 : Int} {w : Wd} (h1 : w 4 11 ≤ x1 → Wp (Cw d) cd_Meeting_lookAround (0, 0, n1) Q 40 [none, none, none] [] w) (h2 : ¬ (w 4 11 ≤ x1) → Wp (Cw d) cd_Meeting_lookAround (0, 0, n1) Q 12 [mR 92, mI x1, none] [] w) : Wp (Cw d) cd_Meeting_lookAround (0, 0, n1) Q 7 [mR 92, mI x1, none] [] w :=
  Wp.s (Wp.s (Wp.s (Wp.s (Wp.s ⟨fun q => Wp.fgd (leA.f (leA.f (leA.f leA.e))) (h1 q), fun q => h2 q⟩))))
theorem Meeting_lookAround_92_b12 {d : Nat} {n1 : Int} {Q : MV → Wd → Prop} {x1 : Int} {w : Wd} (h : Wp (Cw d) cd_Meeting_lookAround (0, 0, n1) Q 14 [mR 92, mI x1, mI 0] [] w) : Wp (Cw d) cd_Meeting_lookAround (0, 0, n1) Q 12 [mR 92, mI x1, none] [] w :=
  Wp.s (Wp.s h)
theorem Meeting_lookAround_92_b14 {d : Nat} {n1 : Int} {Q : MV → Wd → Prop} {x1 x2 : Int} {w : Wd} (h1 : ishl 1 x1 ≤ x2 → Wp (Cw d) cd_Meeting_lookAround (0, 0, n1) Q 38 [mR 92, mI x1, none] [] w) (h2 : ¬ (ishl 1 x1 ≤ x2) → Wp (Cw d) cd_Meeting_lookAround (0, 0, n1) Q 19 [mR 92, mI x1, mI x2] [] w) : Wp (Cw d) cd_Meeting_lookAround (0, 0, n1) Q 14 [mR 92, mI x1, mI x2] [] w :=
  Wp.s (Wp.s (Wp.s (Wp.s (Wp.s ⟨fun q => Wp.fgd (leA.k (leA.k (leA.f leA.e))) (h1 q), fun q => h2 q⟩))))
theorem Meeting_lookAround_92_b19 {d : Nat} {n1 : Int} {Q : MV → Wd → Prop} {x1 x2 : Int} {w : Wd} (g1 : (0 : Int) ≤ x2 ∧ x2 < 256) (g2 : (0 : Int) ≤ x1 ∧ x1 < 8) (g3 : (0 : Int) ≤ ior x2 (ishl 1 x1) ∧ ior x2 (ishl 1 x1) < 256) (h : Wp (Cw d) cd_Meeting_lookAround (0, 0, n1) Q 14 [mR 92, mI x1, mI (w32 (x2 + 1))] [] (ub w 109 (ior x2 (ishl 1 x1)).toNat (ior (w 109 x2.toNat) (w 108 x1.toNat)))) : Wp (Cw d) cd_Meeting_lookAround (0, 0, n1) Q 19 [mR 92, mI x1, mI x2] [] w :=
  Wp.s (Wp.s (Wp.s (Wp.s (Wp.s (Wp.s (Wp.s (Wp.s (Wp.s (Wp.s (Wp.s ⟨g1, Wp.s (Wp.s (Wp.s (Wp.s ⟨g2, Wp.s (Wp.s ⟨g3, Wp.s (Wp.s h)⟩)⟩)))⟩))))))))))
theorem Meeting_lookAround_92_b38 {d : Nat} {n1 : Int} {Q : MV → Wd → Prop} {x1 : Int} {w : Wd} (h : Wp (Cw d) cd_Meeting_lookAround (0, 0, n1) Q 7 [mR 92, mI (w32 (x1 + 1)), none] [] w) : Wp (Cw d) cd_Meeting_lookAround (0, 0, n1) Q 38 [mR 92, mI x1, none] [] w :=
  Wp.s (Wp.s h)
theorem Meeting_lookAround_92_b40 {d : Nat} {n1 : Int} {Q : MV → Wd → Prop} {w : Wd} (h : Q none w) : Wp (Cw d) cd_Meeting_lookAround (0, 0, n1) Q 40 [none, none, none] [] w :=
  Wp.s h
theorem M_seventeen_b0 {d : Nat} {n1 : Int} {Q : MV → Wd → Prop} {x0 : Int} {w : Wd} (h : Wp (Cw d) cd_M_seventeen (3, 0, n1) Q 4 [none, mL 1, none, mI x0] [] w) : Wp (Cw d) cd_M_seventeen (3, 0, n1) Q 0 [mI x0, none, none, none] [] w :=
  Wp.s (Wp.s (Wp.s (Wp.s (Wp.fgd (leA.f (leA.k (leA.f (leA.k leA.e)))) h))))
theorem M_seventeen_b4 {d : Nat} {n1 : Int} {Q : MV → Wd → Prop} {x1 x3 : Int} {w : Wd} (h1 : 7 ≤ x3 → Wp (Cw d) cd_M_seventeen (3, 0, n1) Q 13 [none, mL x1, none, none] [] w) (h2 : ¬ (7 ≤ x3) → Wp (Cw d) cd_M_seventeen (3, 0, n1) Q 7 [none, mL x1, none, mI x3] [] w) : Wp (Cw d) cd_M_seventeen (3, 0, n1) Q 4 [none, mL x1, none, mI x3] [] w :=
  Wp.s (Wp.s (Wp.s ⟨fun q => Wp.fgd (leA.f (leA.k (leA.f (leA.f leA.e)))) (h1 q), fun q => h2 q⟩))
theorem M_seventeen_b7 {d : Nat} {n1 : Int} {Q : MV → Wd → Prop} {x1 x3 : Int} {w : Wd} (h : Wp (Cw d) cd_M_seventeen (3, 0, n1) Q 4 [none, mL (w64 (17 * x1)), none, mI (w32 (x3 + 1))] [] w) : Wp (Cw d) cd_M_seventeen (3, 0, n1) Q 7 [none, mL x1, none, mI x3] [] w :=
  Wp.s (Wp.s (Wp.s (Wp.s (Wp.s (Wp.s h)))))
theorem M_seventeen_b13 {d : Nat} {n1 : Int} {Q : MV → Wd → Prop} {x1 : Int} {w : Wd} (h : Q (mL x1) w) : Wp (Cw d) cd_M_seventeen (3, 0, n1) Q 13 [none, mL x1, none, none] [] w :=
  Wp.s (Wp.s h)
theorem Meeting_digitOf_b0 {d : Nat} {n1 : Int} {Q : MV → Wd → Prop} {x0 : Int} {w : Wd} (h : Q (mI (w32 (5 * (w32 (7 - x0))))) w) : Wp (Cw d) cd_Meeting_digitOf (1, 0, n1) Q 0 [mI x0] [] w :=
  Wp.s (Wp.s (Wp.s (Wp.s (Wp.s (Wp.s h)))))
theorem Plan_readAct_32_2_4_b0 {d : Nat} {n1 : Int} {Q : MV → Wd → Prop} {w : Wd} (h : Cw d 26 [mR 2] w (fun r w' => Wp (Cw d) cd_Plan_readAct (2, 0, n1) Q 2 [mR 32, mR 2, mR 4, none, none, none] [r] w')) : Wp (Cw d) cd_Plan_readAct (2, 0, n1) Q 0 [mR 32, mR 2, mR 4, none, none, none] [] w :=
  Wp.s (Wp.s h)
theorem Plan_readAct_32_2_4_b2 {d : Nat} {n1 : Int} {Q : MV → Wd → Prop} {s0 : Int} {w : Wd} (h1 : s0 < 14 → Wp (Cw d) cd_Plan_readAct (2, 0, n1) Q 9 [none, mR 2, none, none, none, none] [] w) (h2 : ¬ (s0 < 14) → Wp (Cw d) cd_Plan_readAct (2, 0, n1) Q 6 [mR 32, mR 2, mR 4, mI s0, none, none] [] w) : Wp (Cw d) cd_Plan_readAct (2, 0, n1) Q 2 [mR 32, mR 2, mR 4, none, none, none] [mI s0] w :=
  Wp.s (Wp.s (Wp.s (Wp.s ⟨fun q => Wp.fgd (leA.f (leA.k (leA.f (leA.f (leA.f (leA.f leA.e)))))) (h1 q), fun q => h2 q⟩)))
theorem Plan_readAct_32_2_4_b6 {d : Nat} {n1 : Int} {Q : MV → Wd → Prop} {x3 : Int} {w : Wd} (h1 : x3 ≤ 16 → Wp (Cw d) cd_Plan_readAct (2, 0, n1) Q 13 [mR 32, mR 2, mR 4, mI x3, none, none] [] w) (h2 : ¬ (x3 ≤ 16) → Wp (Cw d) cd_Plan_readAct (2, 0, n1) Q 9 [none, mR 2, none, none, none, none] [] w) : Wp (Cw d) cd_Plan_readAct (2, 0, n1) Q 6 [mR 32, mR 2, mR 4, mI x3, none, none] [] w :=
  Wp.s (Wp.s (Wp.s ⟨fun q => h1 q, fun q => Wp.fgd (leA.f (leA.k (leA.f (leA.f (leA.f (leA.f leA.e)))))) (h2 q)⟩))
theorem Plan_readAct_32_2_4_b9 {d : Nat} {n1 : Int} {Q : MV → Wd → Prop} {w : Wd} (h : Cw d 28 [mR 2, mI 1] w (fun r w' => Wp (Cw d) cd_Plan_readAct (2, 0, n1) Q 12 [none, none, none, none, none, none] [r] w')) : Wp (Cw d) cd_Plan_readAct (2, 0, n1) Q 9 [none, mR 2, none, none, none, none] [] w :=
  Wp.s (Wp.s (Wp.s (Cw_mono _ _ _ _ _ _ (fun r w' q => Wp.fgd (leA.f (leA.f (leA.f (leA.f (leA.f (leA.f leA.e)))))) q) h)))
theorem Plan_readAct_32_2_4_b12 {d : Nat} {n1 : Int} {Q : MV → Wd → Prop} {s0 : Int} {w : Wd} (g1 : s0 = 0 ∨ s0 = 1) (h : Q (mI s0) w) : Wp (Cw d) cd_Plan_readAct (2, 0, n1) Q 12 [none, none, none, none, none, none] [mI s0] w :=
  Wp.s ⟨g1, h⟩
theorem Plan_readAct_32_2_4_b13 {d : Nat} {n1 : Int} {Q : MV → Wd → Prop} {x3 : Int} {w : Wd} (h1 : w 32 0 < 50 → Wp (Cw d) cd_Plan_readAct (2, 0, n1) Q 21 [mR 32, mR 2, mR 4, mI x3, none, none] [] w) (h2 : ¬ (w 32 0 < 50) → Wp (Cw d) cd_Plan_readAct (2, 0, n1) Q 17 [none, mR 2, none, none, none, none] [] w) : Wp (Cw d) cd_Plan_readAct (2, 0, n1) Q 13 [mR 32, mR 2, mR 4, mI x3, none, none] [] w :=
  Wp.s (Wp.s (Wp.s (Wp.s ⟨fun q => h1 q, fun q => Wp.fgd (leA.f (leA.k (leA.f (leA.f (leA.f (leA.f leA.e)))))) (h2 q)⟩)))
theorem Plan_readAct_32_2_4_b17 {d : Nat} {n1 : Int} {Q : MV → Wd → Prop} {w : Wd} (h : Cw d 28 [mR 2, mI 4] w (fun r w' => Wp (Cw d) cd_Plan_readAct (2, 0, n1) Q 20 [none, none, none, none, none, none] [r] w')) : Wp (Cw d) cd_Plan_readAct (2, 0, n1) Q 17 [none, mR 2, none, none, none, none] [] w :=
  Wp.s (Wp.s (Wp.s (Cw_mono _ _ _ _ _ _ (fun r w' q => Wp.fgd (leA.f (leA.f (leA.f (leA.f (leA.f (leA.f leA.e)))))) q) h)))
theorem Plan_readAct_32_2_4_b20 {d : Nat} {n1 : Int} {Q : MV → Wd → Prop} {s0 : Int} {w : Wd} (g1 : s0 = 0 ∨ s0 = 1) (h : Q (mI s0) w) : Wp (Cw d) cd_Plan_readAct (2, 0, n1) Q 20 [none, none, none, none, none, none] [mI s0] w :=
  Wp.s ⟨g1, h⟩
theorem Plan_readAct_32_2_4_b21 {d : Nat} {n1 : Int} {Q : MV → Wd → Prop} {x3 : Int} {w : Wd} (h : Cw d 18 [mR 2] w (fun _ w' => Wp (Cw d) cd_Plan_readAct (2, 0, n1) Q 23 [mR 32, mR 2, mR 4, mI x3, none, none] [] w')) : Wp (Cw d) cd_Plan_readAct (2, 0, n1) Q 21 [mR 32, mR 2, mR 4, mI x3, none, none] [] w :=
  Wp.s (Wp.s h)
theorem Plan_readAct_32_2_4_b23 {d : Nat} {n1 : Int} {Q : MV → Wd → Prop} {x3 : Int} {w : Wd} (h1 : ¬ x3 = 16 → Wp (Cw d) cd_Plan_readAct (2, 0, n1) Q 41 [mR 32, mR 2, mR 4, mI x3, none, none] [] w) (h2 : ¬ (¬ x3 = 16) → Wp (Cw d) cd_Plan_readAct (2, 0, n1) Q 26 [mR 32, mR 2, none, none, none, none] [] w) : Wp (Cw d) cd_Plan_readAct (2, 0, n1) Q 23 [mR 32, mR 2, mR 4, mI x3, none, none] [] w :=
  Wp.s (Wp.s (Wp.s ⟨fun q => h1 q, fun q => Wp.fgd (leA.k (leA.k (leA.f (leA.f (leA.f (leA.f leA.e)))))) (h2 q)⟩))
theorem Plan_readAct_32_2_4_b26 {d : Nat} {n1 : Int} {Q : MV → Wd → Prop} {w : Wd} (h : Cw d 34 [mR 2, mI 1, mI 47] w (fun r w' => Wp (Cw d) cd_Plan_readAct (2, 0, n1) Q 30 [mR 32, mR 2, none, none, none, none] [r] w')) : Wp (Cw d) cd_Plan_readAct (2, 0, n1) Q 26 [mR 32, mR 2, none, none, none, none] [] w :=
  Wp.s (Wp.s (Wp.s (Wp.s h)))
theorem Plan_readAct_32_2_4_b30 {d : Nat} {n1 : Int} {Q : MV → Wd → Prop} {s0 : Int} {w : Wd} (h1 : ¬ s0 = 0 → Wp (Cw d) cd_Plan_readAct (2, 0, n1) Q 33 [mR 32, mR 2, none, none, none, none] [] w) (h2 : ¬ (¬ s0 = 0) → Wp (Cw d) cd_Plan_readAct (2, 0, n1) Q 31 [none, none, none, none, none, none] [] w) : Wp (Cw d) cd_Plan_readAct (2, 0, n1) Q 30 [mR 32, mR 2, none, none, none, none] [mI s0] w :=
  Wp.s ⟨fun q => h1 q, fun q => Wp.fgd (leA.f (leA.f (leA.f (leA.f (leA.f (leA.f leA.e)))))) (h2 q)⟩
theorem Plan_readAct_32_2_4_b31 {d : Nat} {n1 : Int} {Q : MV → Wd → Prop} {w : Wd} (h : Q (mI 0) w) : Wp (Cw d) cd_Plan_readAct (2, 0, n1) Q 31 [none, none, none, none, none, none] [] w :=
  Wp.s (Wp.s ⟨(Or.inl rfl), h⟩)
theorem Plan_readAct_32_2_4_b33 {d : Nat} {n1 : Int} {Q : MV → Wd → Prop} {w : Wd} (h : Cw d 32 [mR 2] w (fun r w' => Wp (Cw d) cd_Plan_readAct (2, 0, n1) Q 37 [none, none, none, none, none, none] [r, mI 2, mR 32] w')) : Wp (Cw d) cd_Plan_readAct (2, 0, n1) Q 33 [mR 32, mR 2, none, none, none, none] [] w :=
  Wp.s (Wp.s (Wp.s (Wp.s (Cw_mono _ _ _ _ _ _ (fun r w' q => Wp.fgd (leA.f (leA.f (leA.f (leA.f (leA.f (leA.f leA.e)))))) q) h))))
theorem Plan_readAct_32_2_4_b37 {d : Nat} {n1 : Int} {Q : MV → Wd → Prop} {s0 s1 : Int} {w : Wd} (h : Cw d 100 [mR 32, mI s1, mI s0, mI ((-1))] w (fun _ w' => Wp (Cw d) cd_Plan_readAct (2, 0, n1) Q 39 [none, none, none, none, none, none] [] w')) : Wp (Cw d) cd_Plan_readAct (2, 0, n1) Q 37 [none, none, none, none, none, none] [mI s0, mI s1, mR 32] w :=
  Wp.s (Wp.s h)
theorem Plan_readAct_32_2_4_b39 {d : Nat} {n1 : Int} {Q : MV → Wd → Prop} {w : Wd} (h : Q (mI 1) w) : Wp (Cw d) cd_Plan_readAct (2, 0, n1) Q 39 [none, none, none, none, none, none] [] w :=
  Wp.s (Wp.s ⟨(Or.inr rfl), h⟩)
theorem Plan_readAct_32_2_4_b41 {d : Nat} {n1 : Int} {Q : MV → Wd → Prop} {x3 : Int} {w : Wd} (h : Cw d 34 [mR 2, mI 0, mI (w32 ((w 4 8) - 1))] w (fun r w' => Wp (Cw d) cd_Plan_readAct (2, 0, n1) Q 48 [mR 32, mR 2, mR 4, mI x3, none, none] [r] w')) : Wp (Cw d) cd_Plan_readAct (2, 0, n1) Q 41 [mR 32, mR 2, mR 4, mI x3, none, none] [] w :=
  Wp.s (Wp.s (Wp.s (Wp.s (Wp.s (Wp.s (Wp.s h))))))
theorem Plan_readAct_32_2_4_b48 {d : Nat} {n1 : Int} {Q : MV → Wd → Prop} {x3 s0 : Int} {w : Wd} (h1 : ¬ s0 = 0 → Wp (Cw d) cd_Plan_readAct (2, 0, n1) Q 51 [mR 32, mR 2, mR 4, mI x3, none, none] [] w) (h2 : ¬ (¬ s0 = 0) → Wp (Cw d) cd_Plan_readAct (2, 0, n1) Q 49 [none, none, none, none, none, none] [] w) : Wp (Cw d) cd_Plan_readAct (2, 0, n1) Q 48 [mR 32, mR 2, mR 4, mI x3, none, none] [mI s0] w :=
  Wp.s ⟨fun q => h1 q, fun q => Wp.fgd (leA.f (leA.f (leA.f (leA.f (leA.f (leA.f leA.e)))))) (h2 q)⟩
theorem Plan_readAct_32_2_4_b49 {d : Nat} {n1 : Int} {Q : MV → Wd → Prop} {w : Wd} (h : Q (mI 0) w) : Wp (Cw d) cd_Plan_readAct (2, 0, n1) Q 49 [none, none, none, none, none, none] [] w :=
  Wp.s (Wp.s ⟨(Or.inl rfl), h⟩)
theorem Plan_readAct_32_2_4_b51 {d : Nat} {n1 : Int} {Q : MV → Wd → Prop} {x3 : Int} {w : Wd} (h : Cw d 32 [mR 2] w (fun r w' => Wp (Cw d) cd_Plan_readAct (2, 0, n1) Q 53 [mR 32, mR 2, mR 4, mI x3, none, none] [r] w')) : Wp (Cw d) cd_Plan_readAct (2, 0, n1) Q 51 [mR 32, mR 2, mR 4, mI x3, none, none] [] w :=
  Wp.s (Wp.s h)
theorem Plan_readAct_32_2_4_b53 {d : Nat} {n1 : Int} {Q : MV → Wd → Prop} {x3 s0 : Int} {w : Wd} (h1 : ¬ x3 = 14 → Wp (Cw d) cd_Plan_readAct (2, 0, n1) Q 71 [mR 32, none, none, mI x3, mI s0, mI ((-1))] [] w) (h2 : ¬ (¬ x3 = 14) → Wp (Cw d) cd_Plan_readAct (2, 0, n1) Q 59 [mR 32, mR 2, mR 4, mI x3, mI s0, none] [] w) : Wp (Cw d) cd_Plan_readAct (2, 0, n1) Q 53 [mR 32, mR 2, mR 4, mI x3, none, none] [mI s0] w :=
  Wp.s (Wp.s (Wp.s (Wp.s (Wp.s (Wp.s ⟨fun q => Wp.fgd (leA.k (leA.f (leA.f (leA.k (leA.k (leA.k leA.e)))))) (h1 q), fun q => Wp.fgd (leA.k (leA.k (leA.k (leA.k (leA.k (leA.f leA.e)))))) (h2 q)⟩)))))
theorem Plan_readAct_32_2_4_b59 {d : Nat} {n1 : Int} {Q : MV → Wd → Prop} {x3 x4 : Int} {w : Wd} (h : Cw d 39 [mR 4, mR 2, mI ((-1))] w (fun r w' => Wp (Cw d) cd_Plan_readAct (2, 0, n1) Q 63 [mR 32, mR 2, none, mI x3, mI x4, none] [r] w')) : Wp (Cw d) cd_Plan_readAct (2, 0, n1) Q 59 [mR 32, mR 2, mR 4, mI x3, mI x4, none] [] w :=
  Wp.s (Wp.s (Wp.s (Wp.s (Cw_mono _ _ _ _ _ _ (fun r w' q => Wp.fgd (leA.k (leA.k (leA.f (leA.k (leA.k (leA.f leA.e)))))) q) h))))
theorem Plan_readAct_32_2_4_b63 {d : Nat} {n1 : Int} {Q : MV → Wd → Prop} {x3 x4 s0 : Int} {w : Wd} (h1 : ¬ s0 = (-1) → Wp (Cw d) cd_Plan_readAct (2, 0, n1) Q 69 [mR 32, mR 2, none, mI x3, mI x4, mI s0] [] w) (h2 : ¬ (¬ s0 = (-1)) → Wp (Cw d) cd_Plan_readAct (2, 0, n1) Q 67 [none, none, none, none, none, none] [] w) : Wp (Cw d) cd_Plan_readAct (2, 0, n1) Q 63 [mR 32, mR 2, none, mI x3, mI x4, none] [mI s0] w :=
  Wp.s (Wp.s (Wp.s (Wp.s ⟨fun q => h1 q, fun q => Wp.fgd (leA.f (leA.f (leA.f (leA.f (leA.f (leA.f leA.e)))))) (h2 q)⟩)))
theorem Plan_readAct_32_2_4_b67 {d : Nat} {n1 : Int} {Q : MV → Wd → Prop} {w : Wd} (h : Q (mI 0) w) : Wp (Cw d) cd_Plan_readAct (2, 0, n1) Q 67 [none, none, none, none, none, none] [] w :=
  Wp.s (Wp.s ⟨(Or.inl rfl), h⟩)
theorem Plan_readAct_32_2_4_b69 {d : Nat} {n1 : Int} {Q : MV → Wd → Prop} {x3 x4 x5 : Int} {w : Wd} (h : Cw d 18 [mR 2] w (fun _ w' => Wp (Cw d) cd_Plan_readAct (2, 0, n1) Q 71 [mR 32, none, none, mI x3, mI x4, mI x5] [] w')) : Wp (Cw d) cd_Plan_readAct (2, 0, n1) Q 69 [mR 32, mR 2, none, mI x3, mI x4, mI x5] [] w :=
  Wp.s (Wp.s (Cw_mono _ _ _ _ _ _ (fun r w' q => Wp.fgd (leA.k (leA.f (leA.f (leA.k (leA.k (leA.k leA.e)))))) q) h))
theorem Plan_readAct_32_2_4_b71 {d : Nat} {n1 : Int} {Q : MV → Wd → Prop} {x3 x4 x5 : Int} {w : Wd} (h1 : ¬ x3 = 14 → Wp (Cw d) cd_Plan_readAct (2, 0, n1) Q 77 [none, none, none, none, mI x4, mI x5] [mR 32] w) (h2 : ¬ (¬ x3 = 14) → Wp (Cw d) cd_Plan_readAct (2, 0, n1) Q 75 [none, none, none, none, mI x4, mI x5] [mR 32] w) : Wp (Cw d) cd_Plan_readAct (2, 0, n1) Q 71 [mR 32, none, none, mI x3, mI x4, mI x5] [] w :=
  Wp.s (Wp.s (Wp.s (Wp.s ⟨fun q => Wp.fgd (leA.f (leA.f (leA.f (leA.f (leA.k (leA.k leA.e)))))) (h1 q), fun q => Wp.fgd (leA.f (leA.f (leA.f (leA.f (leA.k (leA.k leA.e)))))) (h2 q)⟩)))
theorem Plan_readAct_32_2_4_b75 {d : Nat} {n1 : Int} {Q : MV → Wd → Prop} {x4 x5 : Int} {w : Wd} (h : Wp (Cw d) cd_Plan_readAct (2, 0, n1) Q 78 [none, none, none, none, mI x4, mI x5] [mI 0, mR 32] w) : Wp (Cw d) cd_Plan_readAct (2, 0, n1) Q 75 [none, none, none, none, mI x4, mI x5] [mR 32] w :=
  Wp.s (Wp.s h)
theorem Plan_readAct_32_2_4_b77 {d : Nat} {n1 : Int} {Q : MV → Wd → Prop} {x4 x5 : Int} {w : Wd} (h : Wp (Cw d) cd_Plan_readAct (2, 0, n1) Q 78 [none, none, none, none, mI x4, mI x5] [mI 1, mR 32] w) : Wp (Cw d) cd_Plan_readAct (2, 0, n1) Q 77 [none, none, none, none, mI x4, mI x5] [mR 32] w :=
  Wp.s h
theorem Plan_readAct_32_2_4_b78 {d : Nat} {n1 : Int} {Q : MV → Wd → Prop} {x4 x5 s0 : Int} {w : Wd} (h : Cw d 100 [mR 32, mI s0, mI x4, mI x5] w (fun _ w' => Wp (Cw d) cd_Plan_readAct (2, 0, n1) Q 81 [none, none, none, none, none, none] [] w')) : Wp (Cw d) cd_Plan_readAct (2, 0, n1) Q 78 [none, none, none, none, mI x4, mI x5] [mI s0, mR 32] w :=
  Wp.s (Wp.s (Wp.s (Cw_mono _ _ _ _ _ _ (fun r w' q => Wp.fgd (leA.f (leA.f (leA.f (leA.f (leA.f (leA.f leA.e)))))) q) h)))
theorem Plan_readAct_32_2_4_b81 {d : Nat} {n1 : Int} {Q : MV → Wd → Prop} {w : Wd} (h : Q (mI 1) w) : Wp (Cw d) cd_Plan_readAct (2, 0, n1) Q 81 [none, none, none, none, none, none] [] w :=
  Wp.s (Wp.s ⟨(Or.inr rfl), h⟩)
theorem M_takes_144_b0 {d : Nat} {n1 : Int} {Q : MV → Wd → Prop} {x1 x2 : Int} {w : Wd} (h1 : w 144 11 = 2 → Wp (Cw d) cd_M_takes (2, 0, n1) Q 8 [mR 144, mI x1, mI x2] [] w) (h2 : ¬ (w 144 11 = 2) → Wp (Cw d) cd_M_takes (2, 0, n1) Q 4 [mR 144, none, none] [] w) : Wp (Cw d) cd_M_takes (2, 0, n1) Q 0 [mR 144, mI x1, mI x2] [] w :=
  Wp.s (Wp.s (Wp.s (Wp.s ⟨fun q => h1 q, fun q => Wp.fgd (leA.k (leA.f (leA.f leA.e))) (h2 q)⟩)))
theorem M_takes_144_b4 {d : Nat} {n1 : Int} {Q : MV → Wd → Prop} {w : Wd} (h : Cw d 182 [mR 144, mI 1] w (fun r w' => Wp (Cw d) cd_M_takes (2, 0, n1) Q 7 [none, none, none] [r] w')) : Wp (Cw d) cd_M_takes (2, 0, n1) Q 4 [mR 144, none, none] [] w :=
  Wp.s (Wp.s (Wp.s (Cw_mono _ _ _ _ _ _ (fun r w' q => Wp.fgd (leA.f (leA.f (leA.f leA.e))) q) h)))
theorem M_takes_144_b7 {d : Nat} {n1 : Int} {Q : MV → Wd → Prop} {s0 : Int} {w : Wd} (g1 : s0 = 0 ∨ s0 = 1) (h : Q (mI s0) w) : Wp (Cw d) cd_M_takes (2, 0, n1) Q 7 [none, none, none] [mI s0] w :=
  Wp.s ⟨g1, h⟩
theorem M_takes_144_b8 {d : Nat} {n1 : Int} {Q : MV → Wd → Prop} {x1 x2 : Int} {w : Wd} (h : Cw d 187 [mI (w 144 14), mI x1, mI x2] w (fun r w' => Wp (Cw d) cd_M_takes (2, 0, n1) Q 13 [mR 144, none, none] [r] w')) : Wp (Cw d) cd_M_takes (2, 0, n1) Q 8 [mR 144, mI x1, mI x2] [] w :=
  Wp.s (Wp.s (Wp.s (Wp.s (Wp.s (Cw_mono _ _ _ _ _ _ (fun r w' q => Wp.fgd (leA.k (leA.f (leA.f leA.e))) q) h)))))
theorem M_takes_144_b13 {d : Nat} {n1 : Int} {Q : MV → Wd → Prop} {s0 : Int} {w : Wd} (h1 : ¬ s0 = 0 → Wp (Cw d) cd_M_takes (2, 0, n1) Q 18 [mR 144, none, none] [] w) (h2 : ¬ (¬ s0 = 0) → Wp (Cw d) cd_M_takes (2, 0, n1) Q 14 [mR 144, none, none] [] w) : Wp (Cw d) cd_M_takes (2, 0, n1) Q 13 [mR 144, none, none] [mI s0] w :=
  Wp.s ⟨fun q => h1 q, fun q => h2 q⟩
theorem M_takes_144_b14 {d : Nat} {n1 : Int} {Q : MV → Wd → Prop} {w : Wd} (h : Cw d 182 [mR 144, mI 2] w (fun r w' => Wp (Cw d) cd_M_takes (2, 0, n1) Q 17 [none, none, none] [r] w')) : Wp (Cw d) cd_M_takes (2, 0, n1) Q 14 [mR 144, none, none] [] w :=
  Wp.s (Wp.s (Wp.s (Cw_mono _ _ _ _ _ _ (fun r w' q => Wp.fgd (leA.f (leA.f (leA.f leA.e))) q) h)))
theorem M_takes_144_b17 {d : Nat} {n1 : Int} {Q : MV → Wd → Prop} {s0 : Int} {w : Wd} (g1 : s0 = 0 ∨ s0 = 1) (h : Q (mI s0) w) : Wp (Cw d) cd_M_takes (2, 0, n1) Q 17 [none, none, none] [mI s0] w :=
  Wp.s ⟨g1, h⟩
theorem M_takes_144_b18 {d : Nat} {n1 : Int} {Q : MV → Wd → Prop} {w : Wd} (h : Cw d 175 [mR 144] (ub w 144 18 (w 144 14)) (fun _ w' => Wp (Cw d) cd_M_takes (2, 0, n1) Q 24 [none, none, none] [] w')) : Wp (Cw d) cd_M_takes (2, 0, n1) Q 18 [mR 144, none, none] [] w :=
  Wp.s (Wp.s (Wp.s (Wp.s (Wp.s (Wp.s (Cw_mono _ _ _ _ _ _ (fun r w' q => Wp.fgd (leA.f (leA.f (leA.f leA.e))) q) h))))))
theorem M_takes_144_b24 {d : Nat} {n1 : Int} {Q : MV → Wd → Prop} {w : Wd} (h : Q (mI 1) w) : Wp (Cw d) cd_M_takes (2, 0, n1) Q 24 [none, none, none] [] w :=
  Wp.s (Wp.s ⟨(Or.inr rfl), h⟩)
theorem M_isName_144_b0 {d : Nat} {n1 : Int} {Q : MV → Wd → Prop} {w : Wd} (h1 : ¬ w 144 11 = 1 → Wp (Cw d) cd_M_isName (2, 0, n1) Q 6 [mR 144, none, none] [] w) (h2 : ¬ (¬ w 144 11 = 1) → Wp (Cw d) cd_M_isName (2, 0, n1) Q 4 [mR 144, none, none] [] w) : Wp (Cw d) cd_M_isName (2, 0, n1) Q 0 [mR 144, none, none] [] w :=
  Wp.s (Wp.s (Wp.s (Wp.s ⟨fun q => h1 q, fun q => h2 q⟩)))
theorem M_isName_144_b4 {d : Nat} {n1 : Int} {Q : MV → Wd → Prop} {w : Wd} (h : Wp (Cw d) cd_M_isName (2, 0, n1) Q 7 [mR 144, none, none] [mI 1] w) : Wp (Cw d) cd_M_isName (2, 0, n1) Q 4 [mR 144, none, none] [] w :=
  Wp.s (Wp.s h)
theorem M_isName_144_b6 {d : Nat} {n1 : Int} {Q : MV → Wd → Prop} {w : Wd} (h : Wp (Cw d) cd_M_isName (2, 0, n1) Q 7 [mR 144, none, none] [mI 0] w) : Wp (Cw d) cd_M_isName (2, 0, n1) Q 6 [mR 144, none, none] [] w :=
  Wp.s h
theorem M_isName_144_b7 {d : Nat} {n1 : Int} {Q : MV → Wd → Prop} {s0 : Int} {w : Wd} (h : Wp (Cw d) cd_M_isName (2, 0, n1) Q 10 [mR 144, mI s0, mI 0] [] w) : Wp (Cw d) cd_M_isName (2, 0, n1) Q 7 [mR 144, none, none] [mI s0] w :=
  Wp.s (Wp.s (Wp.s h))
theorem M_isName_144_b10 {d : Nat} {n1 : Int} {Q : MV → Wd → Prop} {x1 x2 : Int} {w : Wd} (h1 : 17 ≤ x2 → Wp (Cw d) cd_M_isName (2, 0, n1) Q 29 [none, mI x1, none] [] w) (h2 : ¬ (17 ≤ x2) → Wp (Cw d) cd_M_isName (2, 0, n1) Q 13 [mR 144, mI x1, mI x2] [] w) : Wp (Cw d) cd_M_isName (2, 0, n1) Q 10 [mR 144, mI x1, mI x2] [] w :=
  Wp.s (Wp.s (Wp.s ⟨fun q => Wp.fgd (leA.f (leA.k (leA.f leA.e))) (h1 q), fun q => h2 q⟩))
theorem M_isName_144_b13 {d : Nat} {n1 : Int} {Q : MV → Wd → Prop} {x1 x2 : Int} {w : Wd} (h1 : x1 = 0 → Wp (Cw d) cd_M_isName (2, 0, n1) Q 25 [mR 144, none, mI x2] [] w) (h2 : ¬ (x1 = 0) → Wp (Cw d) cd_M_isName (2, 0, n1) Q 15 [mR 144, none, mI x2] [] w) : Wp (Cw d) cd_M_isName (2, 0, n1) Q 13 [mR 144, mI x1, mI x2] [] w :=
  Wp.s (Wp.s ⟨fun q => Wp.fgd (leA.k (leA.f (leA.k leA.e))) (h1 q), fun q => Wp.fgd (leA.k (leA.f (leA.k leA.e))) (h2 q)⟩)
theorem M_isName_144_b15 {d : Nat} {n1 : Int} {Q : MV → Wd → Prop} {x2 : Int} {w : Wd} (g1 : (0 : Int) ≤ x2 ∧ x2 < 17) (h1 : cmp3 (w 144 17) (w 150 x2.toNat) = 0 → Wp (Cw d) cd_M_isName (2, 0, n1) Q 25 [mR 144, none, mI x2] [] w) (h2 : ¬ (cmp3 (w 144 17) (w 150 x2.toNat) = 0) → Wp (Cw d) cd_M_isName (2, 0, n1) Q 23 [mR 144, none, mI x2] [] w) : Wp (Cw d) cd_M_isName (2, 0, n1) Q 15 [mR 144, none, mI x2] [] w :=
  Wp.s (Wp.s (Wp.s (Wp.s (Wp.s (Wp.s ⟨g1, Wp.s (Wp.s ⟨fun q => h1 q, fun q => h2 q⟩)⟩)))))
theorem M_isName_144_b23 {d : Nat} {n1 : Int} {Q : MV → Wd → Prop} {x2 : Int} {w : Wd} (h : Wp (Cw d) cd_M_isName (2, 0, n1) Q 26 [mR 144, none, mI x2] [mI 1] w) : Wp (Cw d) cd_M_isName (2, 0, n1) Q 23 [mR 144, none, mI x2] [] w :=
  Wp.s (Wp.s h)
theorem M_isName_144_b25 {d : Nat} {n1 : Int} {Q : MV → Wd → Prop} {x2 : Int} {w : Wd} (h : Wp (Cw d) cd_M_isName (2, 0, n1) Q 26 [mR 144, none, mI x2] [mI 0] w) : Wp (Cw d) cd_M_isName (2, 0, n1) Q 25 [mR 144, none, mI x2] [] w :=
  Wp.s h
theorem M_isName_144_b26 {d : Nat} {n1 : Int} {Q : MV → Wd → Prop} {x2 s0 : Int} {w : Wd} (h : Wp (Cw d) cd_M_isName (2, 0, n1) Q 10 [mR 144, mI s0, mI (w32 (x2 + 1))] [] w) : Wp (Cw d) cd_M_isName (2, 0, n1) Q 26 [mR 144, none, mI x2] [mI s0] w :=
  Wp.s (Wp.s (Wp.s h))
theorem M_isName_144_b29 {d : Nat} {n1 : Int} {Q : MV → Wd → Prop} {x1 : Int} {w : Wd} (g1 : x1 = 0 ∨ x1 = 1) (h : Q (mI x1) w) : Wp (Cw d) cd_M_isName (2, 0, n1) Q 29 [none, mI x1, none] [] w :=
  Wp.s (Wp.s ⟨g1, h⟩)
theorem M_find_144_b0 {d : Nat} {n1 : Int} {Q : MV → Wd → Prop} {x1 x2 : Int} {w : Wd} (h : Wp (Cw d) cd_M_find (1, 0, n1) Q 2 [mR 144, mI x1, mI x2, mI 0] [] w) : Wp (Cw d) cd_M_find (1, 0, n1) Q 0 [mR 144, mI x1, mI x2, none] [] w :=
  Wp.s (Wp.s h)
theorem M_find_144_b2 {d : Nat} {n1 : Int} {Q : MV → Wd → Prop} {x1 x2 x3 : Int} {w : Wd} (h1 : x2 ≤ x3 → Wp (Cw d) cd_M_find (1, 0, n1) Q 19 [none, none, none, none] [] w) (h2 : ¬ (x2 ≤ x3) → Wp (Cw d) cd_M_find (1, 0, n1) Q 5 [mR 144, mI x1, mI x2, mI x3] [] w) : Wp (Cw d) cd_M_find (1, 0, n1) Q 2 [mR 144, mI x1, mI x2, mI x3] [] w :=
  Wp.s (Wp.s (Wp.s ⟨fun q => Wp.fgd (leA.f (leA.f (leA.f (leA.f leA.e)))) (h1 q), fun q => h2 q⟩))
theorem M_find_144_b5 {d : Nat} {n1 : Int} {Q : MV → Wd → Prop} {x1 x2 x3 : Int} {w : Wd} (g1 : (0 : Int) ≤ w32 (x1 + x3) ∧ w32 (x1 + x3) < 28) (h1 : ¬ cmp3 (w 149 (w32 (x1 + x3)).toNat) (w 144 17) = 0 → Wp (Cw d) cd_M_find (1, 0, n1) Q 17 [mR 144, mI x1, mI x2, mI x3] [] w) (h2 : ¬ (¬ cmp3 (w 149 (w32 (x1 + x3)).toNat) (w 144 17) = 0) → Wp (Cw d) cd_M_find (1, 0, n1) Q 15 [none, none, none, mI x3] [] w) : Wp (Cw d) cd_M_find (1, 0, n1) Q 5 [mR 144, mI x1, mI x2, mI x3] [] w :=
  Wp.s (Wp.s (Wp.s (Wp.s (Wp.s (Wp.s ⟨g1, Wp.s (Wp.s (Wp.s (Wp.s ⟨fun q => h1 q, fun q => Wp.fgd (leA.f (leA.f (leA.f (leA.k leA.e)))) (h2 q)⟩)))⟩)))))
theorem M_find_144_b15 {d : Nat} {n1 : Int} {Q : MV → Wd → Prop} {x3 : Int} {w : Wd} (h : Q (mI x3) w) : Wp (Cw d) cd_M_find (1, 0, n1) Q 15 [none, none, none, mI x3] [] w :=
  Wp.s (Wp.s h)
theorem M_find_144_b17 {d : Nat} {n1 : Int} {Q : MV → Wd → Prop} {x1 x2 x3 : Int} {w : Wd} (h : Wp (Cw d) cd_M_find (1, 0, n1) Q 2 [mR 144, mI x1, mI x2, mI (w32 (x3 + 1))] [] w) : Wp (Cw d) cd_M_find (1, 0, n1) Q 17 [mR 144, mI x1, mI x2, mI x3] [] w :=
  Wp.s (Wp.s h)
theorem M_find_144_b19 {d : Nat} {n1 : Int} {Q : MV → Wd → Prop} {w : Wd} (h : Q (mI ((-1))) w) : Wp (Cw d) cd_M_find (1, 0, n1) Q 19 [none, none, none, none] [] w :=
  Wp.s (Wp.s h)
theorem Plan_next_28_b0 {d : Nat} {n1 : Int} {Q : MV → Wd → Prop} {x1 : Int} {w : Wd} (h1 : x1 ≤ 0 → Wp (Cw d) cd_Plan_next (1, 0, n1) Q 17 [none, none] [] (ub w 28 4 (w32 ((w32 ((w 28 4) * 1103515245)) + 12345)))) (h2 : ¬ (x1 ≤ 0) → Wp (Cw d) cd_Plan_next (1, 0, n1) Q 10 [mR 28, mI x1] [] (ub w 28 4 (w32 ((w32 ((w 28 4) * 1103515245)) + 12345)))) : Wp (Cw d) cd_Plan_next (1, 0, n1) Q 0 [mR 28, mI x1] [] w :=
  Wp.s (Wp.s (Wp.s (Wp.s (Wp.s (Wp.s (Wp.s (Wp.s (Wp.s (Wp.s ⟨fun q => Wp.fgd (leA.f (leA.f leA.e)) (h1 q), fun q => h2 q⟩)))))))))
theorem Plan_next_28_b10 {d : Nat} {n1 : Int} {Q : MV → Wd → Prop} {x1 : Int} {w : Wd} (g1 : ¬ x1 = 0) (h : Wp (Cw d) cd_Plan_next (1, 0, n1) Q 18 [none, none] [mI (Int.tmod (iushr (w 28 4) 8) x1)] w) : Wp (Cw d) cd_Plan_next (1, 0, n1) Q 10 [mR 28, mI x1] [] w :=
  Wp.s (Wp.s (Wp.s (Wp.s (Wp.s (Wp.s ⟨g1, Wp.s (Wp.fgd (leA.f (leA.f leA.e)) h)⟩)))))
theorem Plan_next_28_b17 {d : Nat} {n1 : Int} {Q : MV → Wd → Prop} {w : Wd} (h : Wp (Cw d) cd_Plan_next (1, 0, n1) Q 18 [none, none] [mI 0] w) : Wp (Cw d) cd_Plan_next (1, 0, n1) Q 17 [none, none] [] w :=
  Wp.s h
theorem Plan_next_28_b18 {d : Nat} {n1 : Int} {Q : MV → Wd → Prop} {s0 : Int} {w : Wd} (h : Q (mI s0) w) : Wp (Cw d) cd_Plan_next (1, 0, n1) Q 18 [none, none] [mI s0] w :=
  Wp.s h
theorem Plan_add_28_b0 {d : Nat} {n1 : Int} {Q : MV → Wd → Prop} {x1 x2 x3 : Int} {w : Wd} (h1 : 50 ≤ w 28 0 → Wp (Cw d) cd_Plan_add (0, 0, n1) Q 28 [none, none, none, none] [] w) (h2 : ¬ (50 ≤ w 28 0) → Wp (Cw d) cd_Plan_add (0, 0, n1) Q 4 [mR 28, mI x1, mI x2, mI x3] [] w) : Wp (Cw d) cd_Plan_add (0, 0, n1) Q 0 [mR 28, mI x1, mI x2, mI x3] [] w :=
  Wp.s (Wp.s (Wp.s (Wp.s ⟨fun q => Wp.fgd (leA.f (leA.f (leA.f (leA.f leA.e)))) (h1 q), fun q => h2 q⟩)))
theorem Plan_add_28_b4 {d : Nat} {n1 : Int} {Q : MV → Wd → Prop} {x1 x2 x3 : Int} {w : Wd} (g1 : (0 : Int) ≤ w 28 0 ∧ w 28 0 < 50) (g2 : (0 : Int) ≤ w 28 0 ∧ w 28 0 < 50) (g3 : (0 : Int) ≤ w 28 0 ∧ w 28 0 < 50) (h : Wp (Cw d) cd_Plan_add (0, 0, n1) Q 28 [none, none, none, none] [] (ub (ub (ub (ub w 29 (w 28 0).toNat x1) 30 (w 28 0).toNat x2) 31 (w 28 0).toNat x3) 28 0 (w32 ((w 28 0) + 1)))) : Wp (Cw d) cd_Plan_add (0, 0, n1) Q 4 [mR 28, mI x1, mI x2, mI x3] [] w :=
  Wp.s (Wp.s (Wp.s (Wp.s (Wp.s (Wp.s ⟨g1, Wp.s (Wp.s (Wp.s (Wp.s (Wp.s (Wp.s ⟨g2, Wp.s (Wp.s (Wp.s (Wp.s (Wp.s (Wp.s ⟨g3, Wp.s (Wp.s (Wp.s (Wp.s (Wp.s (Wp.s (Wp.fgd (leA.f (leA.f (leA.f (leA.f leA.e)))) h))))))⟩)))))⟩)))))⟩)))))
theorem Plan_add_28_b28 {d : Nat} {n1 : Int} {Q : MV → Wd → Prop} {w : Wd} (h : Q none w) : Wp (Cw d) cd_Plan_add (0, 0, n1) Q 28 [none, none, none, none] [] w :=
  Wp.s h
theorem Day_begin_132_4_b0 {d : Nat} {n1 : Int} {Q : MV → Wd → Prop} {w : Wd} (h : Wp (Cw d) cd_Day_begin (0, 0, n1) Q 21 [mR 132, mR 4, mI 0] [] (ub (ub (ub (ub (ub (ub w 132 0 1) 132 1 0) 132 2 0) 132 3 0) 132 4 0) 132 6 (w 4 8))) : Wp (Cw d) cd_Day_begin (0, 0, n1) Q 0 [mR 132, mR 4, none] [] w :=
  Wp.s (Wp.s (Wp.s ⟨(Or.inr rfl), Wp.s (Wp.s (Wp.s (Wp.s (Wp.s (Wp.s (Wp.s (Wp.s (Wp.s (Wp.s (Wp.s (Wp.s (Wp.s (Wp.s (Wp.s (Wp.s (Wp.s (Wp.s h)))))))))))))))))⟩))
theorem Day_begin_132_4_b21 {d : Nat} {n1 : Int} {Q : MV → Wd → Prop} {x2 : Int} {w : Wd} (h1 : w 132 6 ≤ x2 → Wp (Cw d) cd_Day_begin (0, 0, n1) Q 45 [none, none, none] [] w) (h2 : ¬ (w 132 6 ≤ x2) → Wp (Cw d) cd_Day_begin (0, 0, n1) Q 25 [mR 132, mR 4, mI x2] [] w) : Wp (Cw d) cd_Day_begin (0, 0, n1) Q 21 [mR 132, mR 4, mI x2] [] w :=
  Wp.s (Wp.s (Wp.s (Wp.s ⟨fun q => Wp.fgd (leA.f (leA.f (leA.f leA.e))) (h1 q), fun q => h2 q⟩)))
theorem Day_begin_132_4_b25 {d : Nat} {n1 : Int} {Q : MV → Wd → Prop} {x2 : Int} {w : Wd} (h : Cw d 61 [mR 4, mI x2, mI 1] w (fun r w' => Wp (Cw d) cd_Day_begin (0, 0, n1) Q 32 [mR 132, mR 4, mI x2] [r, mI x2, mR 133] w')) : Wp (Cw d) cd_Day_begin (0, 0, n1) Q 25 [mR 132, mR 4, mI x2] [] w :=
  Wp.s (Wp.s (Wp.s (Wp.s (Wp.s (Wp.s (Wp.s h))))))
theorem Day_begin_132_4_b32 {d : Nat} {n1 : Int} {Q : MV → Wd → Prop} {x2 s0 s1 : Int} {w : Wd} (g1 : (0 : Int) ≤ s1 ∧ s1 < 16) (g2 : (0 : Int) ≤ x2 ∧ x2 < 16) (g3 : (0 : Int) ≤ x2 ∧ x2 < 16) (h : Wp (Cw d) cd_Day_begin (0, 0, n1) Q 21 [mR 132, mR 4, mI (w32 (x2 + 1))] [] (ub (ub (ub w 133 s1.toNat s0) 134 x2.toNat 1) 136 x2.toNat 0)) : Wp (Cw d) cd_Day_begin (0, 0, n1) Q 32 [mR 132, mR 4, mI x2] [mI s0, mI s1, mR 133] w :=
  Wp.s ⟨g1, Wp.s (Wp.s (Wp.s (Wp.s (Wp.s ⟨g2, Wp.s (Wp.s (Wp.s (Wp.s (Wp.s ⟨g3, Wp.s (Wp.s h)⟩))))⟩))))⟩
theorem Day_begin_132_4_b45 {d : Nat} {n1 : Int} {Q : MV → Wd → Prop} {w : Wd} (h : Q none w) : Wp (Cw d) cd_Day_begin (0, 0, n1) Q 45 [none, none, none] [] w :=
  Wp.s h
theorem Day_doAct_132_4_b0 {d : Nat} {n1 : Int} {Q : MV → Wd → Prop} {x2 x3 x4 : Int} {w : Wd} (h1 : ¬ x2 = 2 → Wp (Cw d) cd_Day_doAct (1, 0, n1) Q 19 [mR 132, mR 4, mI x2, mI x3, mI x4] [] w) (h2 : ¬ (¬ x2 = 2) → Wp (Cw d) cd_Day_doAct (1, 0, n1) Q 3 [mR 132, none, none, mI x3, none] [] w) : Wp (Cw d) cd_Day_doAct (1, 0, n1) Q 0 [mR 132, mR 4, mI x2, mI x3, mI x4] [] w :=
  Wp.s (Wp.s (Wp.s ⟨fun q => h1 q, fun q => Wp.fgd (leA.k (leA.f (leA.f (leA.k (leA.f leA.e))))) (h2 q)⟩))
theorem Day_doAct_132_4_b3 {d : Nat} {n1 : Int} {Q : MV → Wd → Prop} {x3 : Int} {w : Wd} (h1 : w32 ((w 132 2) + x3) < 48 → Wp (Cw d) cd_Day_doAct (1, 0, n1) Q 11 [mR 132, none, none, mI x3, none] [] w) (h2 : ¬ (w32 ((w 132 2) + x3) < 48) → Wp (Cw d) cd_Day_doAct (1, 0, n1) Q 9 [none, none, none, none, none] [] w) : Wp (Cw d) cd_Day_doAct (1, 0, n1) Q 3 [mR 132, none, none, mI x3, none] [] w :=
  Wp.s (Wp.s (Wp.s (Wp.s (Wp.s (Wp.s ⟨fun q => h1 q, fun q => Wp.fgd (leA.f (leA.f (leA.f (leA.f (leA.f leA.e))))) (h2 q)⟩)))))
theorem Day_doAct_132_4_b9 {d : Nat} {n1 : Int} {Q : MV → Wd → Prop} {w : Wd} (h : Q (mI 8) w) : Wp (Cw d) cd_Day_doAct (1, 0, n1) Q 9 [none, none, none, none, none] [] w :=
  Wp.s (Wp.s h)
theorem Day_doAct_132_4_b11 {d : Nat} {n1 : Int} {Q : MV → Wd → Prop} {x3 : Int} {w : Wd} (h : Q (mI 0) (ub w 132 2 (w32 ((w 132 2) + x3)))) : Wp (Cw d) cd_Day_doAct (1, 0, n1) Q 11 [mR 132, none, none, mI x3, none] [] w :=
  Wp.s (Wp.s (Wp.s (Wp.s (Wp.s (Wp.s (Wp.s (Wp.s h)))))))
theorem Day_doAct_132_4_b19 {d : Nat} {n1 : Int} {Q : MV → Wd → Prop} {x2 x3 x4 : Int} {w : Wd} (h : Cw d 61 [mR 4, mI x3, mI 3] w (fun r w' => Wp (Cw d) cd_Day_doAct (1, 0, n1) Q 25 [mR 132, mR 4, mI x2, mI x3, mI x4] [r, mI (w 132 2)] w')) : Wp (Cw d) cd_Day_doAct (1, 0, n1) Q 19 [mR 132, mR 4, mI x2, mI x3, mI x4] [] w :=
  Wp.s (Wp.s (Wp.s (Wp.s (Wp.s (Wp.s h)))))
theorem Day_doAct_132_4_b25 {d : Nat} {n1 : Int} {Q : MV → Wd → Prop} {x2 x3 x4 s0 s1 : Int} {w : Wd} (h1 : s0 ≤ s1 → Wp (Cw d) cd_Day_doAct (1, 0, n1) Q 28 [mR 132, mR 4, mI x2, mI x3, mI x4] [] w) (h2 : ¬ (s0 ≤ s1) → Wp (Cw d) cd_Day_doAct (1, 0, n1) Q 26 [none, none, none, none, none] [] w) : Wp (Cw d) cd_Day_doAct (1, 0, n1) Q 25 [mR 132, mR 4, mI x2, mI x3, mI x4] [mI s0, mI s1] w :=
  Wp.s ⟨fun q => h1 q, fun q => Wp.fgd (leA.f (leA.f (leA.f (leA.f (leA.f leA.e))))) (h2 q)⟩
theorem Day_doAct_132_4_b26 {d : Nat} {n1 : Int} {Q : MV → Wd → Prop} {w : Wd} (h : Q (mI 1) w) : Wp (Cw d) cd_Day_doAct (1, 0, n1) Q 26 [none, none, none, none, none] [] w :=
  Wp.s (Wp.s h)
theorem Day_doAct_132_4_b28 {d : Nat} {n1 : Int} {Q : MV → Wd → Prop} {x2 x3 x4 : Int} {w : Wd} (g1 : (0 : Int) ≤ x3 ∧ x3 < 16) (h1 : w 134 x3.toNat = 0 → Wp (Cw d) cd_Day_doAct (1, 0, n1) Q 40 [none, none, none, none, none] [] w) (h2 : ¬ (w 134 x3.toNat = 0) → Wp (Cw d) cd_Day_doAct (1, 0, n1) Q 33 [mR 132, mR 4, mI x2, mI x3, mI x4] [] w) : Wp (Cw d) cd_Day_doAct (1, 0, n1) Q 28 [mR 132, mR 4, mI x2, mI x3, mI x4] [] w :=
  Wp.s (Wp.s (Wp.s (Wp.s ⟨g1, Wp.s ⟨fun q => Wp.fgd (leA.f (leA.f (leA.f (leA.f (leA.f leA.e))))) (h1 q), fun q => h2 q⟩⟩)))
theorem Day_doAct_132_4_b33 {d : Nat} {n1 : Int} {Q : MV → Wd → Prop} {x2 x3 x4 : Int} {w : Wd} (h : Cw d 61 [mR 4, mI x3, mI 4] w (fun r w' => Wp (Cw d) cd_Day_doAct (1, 0, n1) Q 39 [mR 132, mR 4, mI x2, mI x3, mI x4] [r, mI (w 132 2)] w')) : Wp (Cw d) cd_Day_doAct (1, 0, n1) Q 33 [mR 132, mR 4, mI x2, mI x3, mI x4] [] w :=
  Wp.s (Wp.s (Wp.s (Wp.s (Wp.s (Wp.s h)))))
theorem Day_doAct_132_4_b39 {d : Nat} {n1 : Int} {Q : MV → Wd → Prop} {x2 x3 x4 s0 s1 : Int} {w : Wd} (h1 : s1 < s0 → Wp (Cw d) cd_Day_doAct (1, 0, n1) Q 42 [mR 132, mR 4, mI x2, mI x3, mI x4] [] w) (h2 : ¬ (s1 < s0) → Wp (Cw d) cd_Day_doAct (1, 0, n1) Q 40 [none, none, none, none, none] [] w) : Wp (Cw d) cd_Day_doAct (1, 0, n1) Q 39 [mR 132, mR 4, mI x2, mI x3, mI x4] [mI s0, mI s1] w :=
  Wp.s ⟨fun q => h1 q, fun q => Wp.fgd (leA.f (leA.f (leA.f (leA.f (leA.f leA.e))))) (h2 q)⟩
theorem Day_doAct_132_4_b40 {d : Nat} {n1 : Int} {Q : MV → Wd → Prop} {w : Wd} (h : Q (mI 2) w) : Wp (Cw d) cd_Day_doAct (1, 0, n1) Q 40 [none, none, none, none, none] [] w :=
  Wp.s (Wp.s h)
theorem Day_doAct_132_4_b42 {d : Nat} {n1 : Int} {Q : MV → Wd → Prop} {x2 x3 x4 : Int} {w : Wd} (g1 : (0 : Int) ≤ x3 ∧ x3 < 16) (h1 : w 136 x3.toNat ≤ w 132 2 → Wp (Cw d) cd_Day_doAct (1, 0, n1) Q 51 [mR 132, mR 4, mI x2, mI x3, mI x4] [] w) (h2 : ¬ (w 136 x3.toNat ≤ w 132 2) → Wp (Cw d) cd_Day_doAct (1, 0, n1) Q 49 [none, none, none, none, none] [] w) : Wp (Cw d) cd_Day_doAct (1, 0, n1) Q 42 [mR 132, mR 4, mI x2, mI x3, mI x4] [] w :=
  Wp.s (Wp.s (Wp.s (Wp.s (Wp.s (Wp.s ⟨g1, Wp.s ⟨fun q => h1 q, fun q => Wp.fgd (leA.f (leA.f (leA.f (leA.f (leA.f leA.e))))) (h2 q)⟩⟩)))))
theorem Day_doAct_132_4_b49 {d : Nat} {n1 : Int} {Q : MV → Wd → Prop} {w : Wd} (h : Q (mI 3) w) : Wp (Cw d) cd_Day_doAct (1, 0, n1) Q 49 [none, none, none, none, none] [] w :=
  Wp.s (Wp.s h)
theorem Day_doAct_132_4_b51 {d : Nat} {n1 : Int} {Q : MV → Wd → Prop} {x2 x3 x4 : Int} {w : Wd} (h1 : ¬ x2 = 0 → Wp (Cw d) cd_Day_doAct (1, 0, n1) Q 59 [mR 132, mR 4, none, mI x3, none] [] w) (h2 : ¬ (¬ x2 = 0) → Wp (Cw d) cd_Day_doAct (1, 0, n1) Q 53 [mR 132, mR 4, none, mI x3, mI x4] [] w) : Wp (Cw d) cd_Day_doAct (1, 0, n1) Q 51 [mR 132, mR 4, mI x2, mI x3, mI x4] [] w :=
  Wp.s (Wp.s ⟨fun q => Wp.fgd (leA.k (leA.k (leA.f (leA.k (leA.f leA.e))))) (h1 q), fun q => Wp.fgd (leA.k (leA.k (leA.f (leA.k (leA.k leA.e))))) (h2 q)⟩)
theorem Day_doAct_132_4_b53 {d : Nat} {n1 : Int} {Q : MV → Wd → Prop} {x3 x4 : Int} {w : Wd} (h : Cw d 109 [mR 132, mR 4, mI x3, mI x4] w (fun r w' => Wp (Cw d) cd_Day_doAct (1, 0, n1) Q 58 [none, none, none, none, none] [r] w')) : Wp (Cw d) cd_Day_doAct (1, 0, n1) Q 53 [mR 132, mR 4, none, mI x3, mI x4] [] w :=
  Wp.s (Wp.s (Wp.s (Wp.s (Wp.s (Cw_mono _ _ _ _ _ _ (fun r w' q => Wp.fgd (leA.f (leA.f (leA.f (leA.f (leA.f leA.e))))) q) h)))))
theorem Day_doAct_132_4_b58 {d : Nat} {n1 : Int} {Q : MV → Wd → Prop} {s0 : Int} {w : Wd} (h : Wp (Cw d) cd_Day_doAct (1, 0, n1) Q 63 [none, none, none, none, none] [mI s0] w) : Wp (Cw d) cd_Day_doAct (1, 0, n1) Q 58 [none, none, none, none, none] [mI s0] w :=
  Wp.s h
theorem Day_doAct_132_4_b59 {d : Nat} {n1 : Int} {Q : MV → Wd → Prop} {x3 : Int} {w : Wd} (h : Cw d 111 [mR 132, mR 4, mI x3] w (fun r w' => Wp (Cw d) cd_Day_doAct (1, 0, n1) Q 63 [none, none, none, none, none] [r] w')) : Wp (Cw d) cd_Day_doAct (1, 0, n1) Q 59 [mR 132, mR 4, none, mI x3, none] [] w :=
  Wp.s (Wp.s (Wp.s (Wp.s (Cw_mono _ _ _ _ _ _ (fun r w' q => Wp.fgd (leA.f (leA.f (leA.f (leA.f (leA.f leA.e))))) q) h))))
theorem Day_doAct_132_4_b63 {d : Nat} {n1 : Int} {Q : MV → Wd → Prop} {s0 : Int} {w : Wd} (h : Q (mI s0) w) : Wp (Cw d) cd_Day_doAct (1, 0, n1) Q 63 [none, none, none, none, none] [mI s0] w :=
  Wp.s h
theorem Day_close_132_4_b0 {d : Nat} {n1 : Int} {Q : MV → Wd → Prop} {w : Wd} (h : Wp (Cw d) cd_Day_close (0, 0, n1) Q 8 [mR 132, mR 4, mI 0, none, none] [] (ub (ub w 132 5 0) 132 7 0)) : Wp (Cw d) cd_Day_close (0, 0, n1) Q 0 [mR 132, mR 4, none, none, none] [] w :=
  Wp.s (Wp.s (Wp.s (Wp.s (Wp.s (Wp.s (Wp.s (Wp.s h)))))))
theorem Day_close_132_4_b8 {d : Nat} {n1 : Int} {Q : MV → Wd → Prop} {x2 : Int} {w : Wd} (h1 : w 132 6 ≤ x2 → Wp (Cw d) cd_Day_close (0, 0, n1) Q 85 [none, none, none, none, none] [] w) (h2 : ¬ (w 132 6 ≤ x2) → Wp (Cw d) cd_Day_close (0, 0, n1) Q 12 [mR 132, mR 4, mI x2, none, none] [] w) : Wp (Cw d) cd_Day_close (0, 0, n1) Q 8 [mR 132, mR 4, mI x2, none, none] [] w :=
  Wp.s (Wp.s (Wp.s (Wp.s ⟨fun q => Wp.fgd (leA.f (leA.f (leA.f (leA.f (leA.f leA.e))))) (h1 q), fun q => h2 q⟩)))
theorem Day_close_132_4_b12 {d : Nat} {n1 : Int} {Q : MV → Wd → Prop} {x2 : Int} {w : Wd} (h : Cw d 61 [mR 4, mI x2, mI 4] w (fun r w' => Wp (Cw d) cd_Day_close (0, 0, n1) Q 18 [mR 132, mR 4, mI x2, none, none] [r, mI (w 132 2)] w')) : Wp (Cw d) cd_Day_close (0, 0, n1) Q 12 [mR 132, mR 4, mI x2, none, none] [] w :=
  Wp.s (Wp.s (Wp.s (Wp.s (Wp.s (Wp.s h)))))
theorem Day_close_132_4_b18 {d : Nat} {n1 : Int} {Q : MV → Wd → Prop} {x2 s0 s1 : Int} {w : Wd} (h1 : s1 < s0 → Wp (Cw d) cd_Day_close (0, 0, n1) Q 21 [mR 132, mR 4, mI x2, none, none] [] w) (h2 : ¬ (s1 < s0) → Wp (Cw d) cd_Day_close (0, 0, n1) Q 19 [mR 132, mR 4, mI x2, none, none] [] w) : Wp (Cw d) cd_Day_close (0, 0, n1) Q 18 [mR 132, mR 4, mI x2, none, none] [mI s0, mI s1] w :=
  Wp.s ⟨fun q => h1 q, fun q => h2 q⟩
theorem Day_close_132_4_b19 {d : Nat} {n1 : Int} {Q : MV → Wd → Prop} {x2 : Int} {w : Wd} (h : Wp (Cw d) cd_Day_close (0, 0, n1) Q 22 [mR 132, mR 4, mI x2, none, none] [mI 1] w) : Wp (Cw d) cd_Day_close (0, 0, n1) Q 19 [mR 132, mR 4, mI x2, none, none] [] w :=
  Wp.s (Wp.s h)
theorem Day_close_132_4_b21 {d : Nat} {n1 : Int} {Q : MV → Wd → Prop} {x2 : Int} {w : Wd} (h : Wp (Cw d) cd_Day_close (0, 0, n1) Q 22 [mR 132, mR 4, mI x2, none, none] [mI 0] w) : Wp (Cw d) cd_Day_close (0, 0, n1) Q 21 [mR 132, mR 4, mI x2, none, none] [] w :=
  Wp.s h
theorem Day_close_132_4_b22 {d : Nat} {n1 : Int} {Q : MV → Wd → Prop} {x2 s0 : Int} {w : Wd} (g1 : (0 : Int) ≤ x2 ∧ x2 < 16) (h1 : w 134 x2.toNat = 0 → Wp (Cw d) cd_Day_close (0, 0, n1) Q 39 [mR 132, mR 4, mI x2, mI s0, none] [] w) (h2 : ¬ (w 134 x2.toNat = 0) → Wp (Cw d) cd_Day_close (0, 0, n1) Q 28 [mR 132, mR 4, mI x2, mI s0, none] [] w) : Wp (Cw d) cd_Day_close (0, 0, n1) Q 22 [mR 132, mR 4, mI x2, none, none] [mI s0] w :=
  Wp.s (Wp.s (Wp.s (Wp.s (Wp.s ⟨g1, Wp.s ⟨fun q => h1 q, fun q => h2 q⟩⟩))))
theorem Day_close_132_4_b28 {d : Nat} {n1 : Int} {Q : MV → Wd → Prop} {x2 x3 : Int} {w : Wd} (g1 : (0 : Int) ≤ x2 ∧ x2 < 16) (h1 : w 132 2 < w 136 x2.toNat → Wp (Cw d) cd_Day_close (0, 0, n1) Q 39 [mR 132, mR 4, mI x2, mI x3, none] [] w) (h2 : ¬ (w 132 2 < w 136 x2.toNat) → Wp (Cw d) cd_Day_close (0, 0, n1) Q 35 [mR 132, mR 4, mI x2, mI x3, none] [] w) : Wp (Cw d) cd_Day_close (0, 0, n1) Q 28 [mR 132, mR 4, mI x2, mI x3, none] [] w :=
  Wp.s (Wp.s (Wp.s (Wp.s (Wp.s (Wp.s ⟨g1, Wp.s ⟨fun q => h1 q, fun q => h2 q⟩⟩)))))
theorem Day_close_132_4_b35 {d : Nat} {n1 : Int} {Q : MV → Wd → Prop} {x2 x3 : Int} {w : Wd} (h1 : ¬ x3 = 0 → Wp (Cw d) cd_Day_close (0, 0, n1) Q 39 [mR 132, mR 4, mI x2, mI x3, none] [] w) (h2 : ¬ (¬ x3 = 0) → Wp (Cw d) cd_Day_close (0, 0, n1) Q 37 [mR 132, mR 4, mI x2, mI x3, none] [] w) : Wp (Cw d) cd_Day_close (0, 0, n1) Q 35 [mR 132, mR 4, mI x2, mI x3, none] [] w :=
  Wp.s (Wp.s ⟨fun q => h1 q, fun q => h2 q⟩)
theorem Day_close_132_4_b37 {d : Nat} {n1 : Int} {Q : MV → Wd → Prop} {x2 x3 : Int} {w : Wd} (h : Wp (Cw d) cd_Day_close (0, 0, n1) Q 40 [mR 132, mR 4, mI x2, mI x3, none] [mI 1] w) : Wp (Cw d) cd_Day_close (0, 0, n1) Q 37 [mR 132, mR 4, mI x2, mI x3, none] [] w :=
  Wp.s (Wp.s h)
theorem Day_close_132_4_b39 {d : Nat} {n1 : Int} {Q : MV → Wd → Prop} {x2 x3 : Int} {w : Wd} (h : Wp (Cw d) cd_Day_close (0, 0, n1) Q 40 [mR 132, mR 4, mI x2, mI x3, none] [mI 0] w) : Wp (Cw d) cd_Day_close (0, 0, n1) Q 39 [mR 132, mR 4, mI x2, mI x3, none] [] w :=
  Wp.s h
theorem Day_close_132_4_b40 {d : Nat} {n1 : Int} {Q : MV → Wd → Prop} {x2 x3 s0 : Int} {w : Wd} (g1 : (0 : Int) ≤ x2 ∧ x2 < 16) (h1 : w 134 x2.toNat = 0 → Wp (Cw d) cd_Day_close (0, 0, n1) Q 55 [mR 132, mR 4, mI x2, none, mI s0] [mI (w 132 5), mR 132] w) (h2 : ¬ (w 134 x2.toNat = 0) → Wp (Cw d) cd_Day_close (0, 0, n1) Q 49 [mR 132, mR 4, mI x2, mI x3, mI s0] [mI (w 132 5), mR 132] w) : Wp (Cw d) cd_Day_close (0, 0, n1) Q 40 [mR 132, mR 4, mI x2, mI x3, none] [mI s0] w :=
  Wp.s (Wp.s (Wp.s (Wp.s (Wp.s (Wp.s (Wp.s (Wp.s ⟨g1, Wp.s ⟨fun q => Wp.fgd (leA.k (leA.k (leA.k (leA.f (leA.k leA.e))))) (h1 q), fun q => h2 q⟩⟩)))))))
theorem Day_close_132_4_b49 {d : Nat} {n1 : Int} {Q : MV → Wd → Prop} {x2 x3 x4 s0 : Int} {w : Wd} (h1 : x3 = 0 → Wp (Cw d) cd_Day_close (0, 0, n1) Q 55 [mR 132, mR 4, mI x2, none, mI x4] [mI s0, mR 132] w) (h2 : ¬ (x3 = 0) → Wp (Cw d) cd_Day_close (0, 0, n1) Q 51 [mR 132, mR 4, mI x2, none, mI x4] [mI s0, mR 132] w) : Wp (Cw d) cd_Day_close (0, 0, n1) Q 49 [mR 132, mR 4, mI x2, mI x3, mI x4] [mI s0, mR 132] w :=
  Wp.s (Wp.s ⟨fun q => Wp.fgd (leA.k (leA.k (leA.k (leA.f (leA.k leA.e))))) (h1 q), fun q => Wp.fgd (leA.k (leA.k (leA.k (leA.f (leA.k leA.e))))) (h2 q)⟩)
theorem Day_close_132_4_b51 {d : Nat} {n1 : Int} {Q : MV → Wd → Prop} {x2 x4 s0 : Int} {w : Wd} (h : Wp (Cw d) cd_Day_close (0, 0, n1) Q 56 [mR 132, mR 4, mI x2, none, mI x4] [mI (ishl 1 x2), mI s0, mR 132] w) : Wp (Cw d) cd_Day_close (0, 0, n1) Q 51 [mR 132, mR 4, mI x2, none, mI x4] [mI s0, mR 132] w :=
  Wp.s (Wp.s (Wp.s (Wp.s h)))
theorem Day_close_132_4_b55 {d : Nat} {n1 : Int} {Q : MV → Wd → Prop} {x2 x4 s0 : Int} {w : Wd} (h : Wp (Cw d) cd_Day_close (0, 0, n1) Q 56 [mR 132, mR 4, mI x2, none, mI x4] [mI 0, mI s0, mR 132] w) : Wp (Cw d) cd_Day_close (0, 0, n1) Q 55 [mR 132, mR 4, mI x2, none, mI x4] [mI s0, mR 132] w :=
  Wp.s h
theorem Day_close_132_4_b56 {d : Nat} {n1 : Int} {Q : MV → Wd → Prop} {x2 x4 s0 s1 : Int} {w : Wd} (h1 : x4 = 0 → Wp (Cw d) cd_Day_close (0, 0, n1) Q 80 [mR 132, mR 4, mI x2, none, none] [mI ((up1 (w 132) 5 (ior s1 s0)) 7), mR 132] (ub w 132 5 (ior s1 s0))) (h2 : ¬ (x4 = 0) → Wp (Cw d) cd_Day_close (0, 0, n1) Q 63 [mR 132, mR 4, mI x2, none, none] [mI ((up1 (w 132) 5 (ior s1 s0)) 7), mR 132] (ub w 132 5 (ior s1 s0))) : Wp (Cw d) cd_Day_close (0, 0, n1) Q 56 [mR 132, mR 4, mI x2, none, mI x4] [mI s0, mI s1, mR 132] w :=
  Wp.s (Wp.s (Wp.s (Wp.s (Wp.s (Wp.s (Wp.s ⟨fun q => Wp.fgd (leA.k (leA.k (leA.k (leA.f (leA.f leA.e))))) (h1 q), fun q => Wp.fgd (leA.k (leA.k (leA.k (leA.f (leA.f leA.e))))) (h2 q)⟩))))))
theorem Day_close_132_4_b63 {d : Nat} {n1 : Int} {Q : MV → Wd → Prop} {x2 s0 : Int} {w : Wd} (g1 : (0 : Int) ≤ x2 ∧ x2 < 16) (h1 : ¬ w 134 x2.toNat = w 4 15 → Wp (Cw d) cd_Day_close (0, 0, n1) Q 80 [mR 132, mR 4, mI x2, none, none] [mI s0, mR 132] w) (h2 : ¬ (¬ w 134 x2.toNat = w 4 15) → Wp (Cw d) cd_Day_close (0, 0, n1) Q 70 [mR 132, mR 4, mI x2, none, none] [mI s0, mR 132] w) : Wp (Cw d) cd_Day_close (0, 0, n1) Q 63 [mR 132, mR 4, mI x2, none, none] [mI s0, mR 132] w :=
  Wp.s (Wp.s (Wp.s (Wp.s ⟨g1, Wp.s (Wp.s (Wp.s ⟨fun q => h1 q, fun q => h2 q⟩))⟩)))
theorem Day_close_132_4_b70 {d : Nat} {n1 : Int} {Q : MV → Wd → Prop} {x2 s0 : Int} {w : Wd} (h : Cw d 112 [mR 132, mR 4, mI x2] w (fun r w' => Wp (Cw d) cd_Day_close (0, 0, n1) Q 74 [mR 132, mR 4, mI x2, none, none] [r, mI s0, mR 132] w')) : Wp (Cw d) cd_Day_close (0, 0, n1) Q 70 [mR 132, mR 4, mI x2, none, none] [mI s0, mR 132] w :=
  Wp.s (Wp.s (Wp.s (Wp.s h)))
theorem Day_close_132_4_b74 {d : Nat} {n1 : Int} {Q : MV → Wd → Prop} {x2 s0 s1 : Int} {w : Wd} (h1 : s0 = (-1) → Wp (Cw d) cd_Day_close (0, 0, n1) Q 80 [mR 132, mR 4, mI x2, none, none] [mI s1, mR 132] w) (h2 : ¬ (s0 = (-1)) → Wp (Cw d) cd_Day_close (0, 0, n1) Q 76 [mR 132, mR 4, mI x2, none, none] [mI s1, mR 132] w) : Wp (Cw d) cd_Day_close (0, 0, n1) Q 74 [mR 132, mR 4, mI x2, none, none] [mI s0, mI s1, mR 132] w :=
  Wp.s (Wp.s ⟨fun q => h1 q, fun q => h2 q⟩)
theorem Day_close_132_4_b76 {d : Nat} {n1 : Int} {Q : MV → Wd → Prop} {x2 s0 : Int} {w : Wd} (h : Wp (Cw d) cd_Day_close (0, 0, n1) Q 81 [mR 132, mR 4, mI x2, none, none] [mI (ishl 1 x2), mI s0, mR 132] w) : Wp (Cw d) cd_Day_close (0, 0, n1) Q 76 [mR 132, mR 4, mI x2, none, none] [mI s0, mR 132] w :=
  Wp.s (Wp.s (Wp.s (Wp.s h)))
theorem Day_close_132_4_b80 {d : Nat} {n1 : Int} {Q : MV → Wd → Prop} {x2 s0 : Int} {w : Wd} (h : Wp (Cw d) cd_Day_close (0, 0, n1) Q 81 [mR 132, mR 4, mI x2, none, none] [mI 0, mI s0, mR 132] w) : Wp (Cw d) cd_Day_close (0, 0, n1) Q 80 [mR 132, mR 4, mI x2, none, none] [mI s0, mR 132] w :=
  Wp.s h
theorem Day_close_132_4_b81 {d : Nat} {n1 : Int} {Q : MV → Wd → Prop} {x2 s0 s1 : Int} {w : Wd} (h : Wp (Cw d) cd_Day_close (0, 0, n1) Q 8 [mR 132, mR 4, mI (w32 (x2 + 1)), none, none] [] (ub w 132 7 (ior s1 s0))) : Wp (Cw d) cd_Day_close (0, 0, n1) Q 81 [mR 132, mR 4, mI x2, none, none] [mI s0, mI s1, mR 132] w :=
  Wp.s (Wp.s (Wp.s (Wp.s h)))
theorem Day_close_132_4_b85 {d : Nat} {n1 : Int} {Q : MV → Wd → Prop} {w : Wd} (h : Q none w) : Wp (Cw d) cd_Day_close (0, 0, n1) Q 85 [none, none, none, none, none] [] w :=
  Wp.s h
theorem M_wantFor_144_b0 {d : Nat} {n1 : Int} {Q : MV → Wd → Prop} {x1 x2 : Int} {w : Wd} (h : Wp (Cw d) cd_M_wantFor (1, 0, n1) Q 2 [mR 144, mI x1, mI x2, mI 0] [] w) : Wp (Cw d) cd_M_wantFor (1, 0, n1) Q 0 [mR 144, mI x1, mI x2, none] [] w :=
  Wp.s (Wp.s h)
theorem M_wantFor_144_b2 {d : Nat} {n1 : Int} {Q : MV → Wd → Prop} {x1 x2 x3 : Int} {w : Wd} (h1 : w 146 3.toNat ≤ x3 → Wp (Cw d) cd_M_wantFor (1, 0, n1) Q 54 [none, none, none, none] [] w) (h2 : ¬ (w 146 3.toNat ≤ x3) → Wp (Cw d) cd_M_wantFor (1, 0, n1) Q 8 [mR 144, mI x1, mI x2, mI x3] [] w) : Wp (Cw d) cd_M_wantFor (1, 0, n1) Q 2 [mR 144, mI x1, mI x2, mI x3] [] w :=
  Wp.s (Wp.s (Wp.s (Wp.s (Wp.s ⟨(by decide), Wp.s ⟨fun q => Wp.fgd (leA.f (leA.f (leA.f (leA.f leA.e)))) (h1 q), fun q => h2 q⟩⟩))))
theorem M_wantFor_144_b8 {d : Nat} {n1 : Int} {Q : MV → Wd → Prop} {x1 x2 x3 : Int} {w : Wd} (g1 : (0 : Int) ≤ w32 (109 + (w32 (4 * x3))) ∧ w32 (109 + (w32 (4 * x3))) < 645) (h1 : ¬ w 146 (w32 (109 + (w32 (4 * x3)))).toNat = x1 → Wp (Cw d) cd_M_wantFor (1, 0, n1) Q 52 [mR 144, mI x1, mI x2, mI x3] [] w) (h2 : ¬ (¬ w 146 (w32 (109 + (w32 (4 * x3)))).toNat = x1) → Wp (Cw d) cd_M_wantFor (1, 0, n1) Q 18 [mR 144, mI x1, mI x2, mI x3] [] w) : Wp (Cw d) cd_M_wantFor (1, 0, n1) Q 8 [mR 144, mI x1, mI x2, mI x3] [] w :=
  Wp.s (Wp.s (Wp.s (Wp.s (Wp.s (Wp.s (Wp.s (Wp.s ⟨g1, Wp.s (Wp.s ⟨fun q => h1 q, fun q => h2 q⟩)⟩)))))))
theorem M_wantFor_144_b18 {d : Nat} {n1 : Int} {Q : MV → Wd → Prop} {x1 x2 x3 : Int} {w : Wd} (g1 : (0 : Int) ≤ w32 ((w32 (109 + (w32 (4 * x3)))) + 1) ∧ w32 ((w32 (109 + (w32 (4 * x3)))) + 1) < 645) (h : Cw d 202 [mR 144, mI x2] w (fun r w' => Wp (Cw d) cd_M_wantFor (1, 0, n1) Q 31 [mR 144, mI x1, mI x2, mI x3] [r, mI (w 146 (w32 ((w32 (109 + (w32 (4 * x3)))) + 1)).toNat)] w')) : Wp (Cw d) cd_M_wantFor (1, 0, n1) Q 18 [mR 144, mI x1, mI x2, mI x3] [] w :=
  Wp.s (Wp.s (Wp.s (Wp.s (Wp.s (Wp.s (Wp.s (Wp.s (Wp.s (Wp.s ⟨g1, Wp.s (Wp.s (Wp.s h))⟩)))))))))
theorem M_wantFor_144_b31 {d : Nat} {n1 : Int} {Q : MV → Wd → Prop} {x1 x2 x3 s0 s1 : Int} {w : Wd} (h1 : ¬ s1 = s0 → Wp (Cw d) cd_M_wantFor (1, 0, n1) Q 52 [mR 144, mI x1, mI x2, mI x3] [] w) (h2 : ¬ (¬ s1 = s0) → Wp (Cw d) cd_M_wantFor (1, 0, n1) Q 32 [mR 144, mI x1, mI x2, mI x3] [] w) : Wp (Cw d) cd_M_wantFor (1, 0, n1) Q 31 [mR 144, mI x1, mI x2, mI x3] [mI s0, mI s1] w :=
  Wp.s ⟨fun q => h1 q, fun q => h2 q⟩
theorem M_wantFor_144_b32 {d : Nat} {n1 : Int} {Q : MV → Wd → Prop} {x1 x2 x3 : Int} {w : Wd} (h : Cw d 211 [mI (w 144 60), mI x3] w (fun r w' => Wp (Cw d) cd_M_wantFor (1, 0, n1) Q 36 [mR 144, mI x1, mI x2, mI x3] [r] w')) : Wp (Cw d) cd_M_wantFor (1, 0, n1) Q 32 [mR 144, mI x1, mI x2, mI x3] [] w :=
  Wp.s (Wp.s (Wp.s (Wp.s h)))
theorem M_wantFor_144_b36 {d : Nat} {n1 : Int} {Q : MV → Wd → Prop} {x1 x2 x3 s0 : Int} {w : Wd} (h1 : ¬ s0 = 0 → Wp (Cw d) cd_M_wantFor (1, 0, n1) Q 52 [mR 144, mI x1, mI x2, mI x3] [] w) (h2 : ¬ (¬ s0 = 0) → Wp (Cw d) cd_M_wantFor (1, 0, n1) Q 37 [mR 144, mI x1, mI x2, mI x3] [] w) : Wp (Cw d) cd_M_wantFor (1, 0, n1) Q 36 [mR 144, mI x1, mI x2, mI x3] [mI s0] w :=
  Wp.s ⟨fun q => h1 q, fun q => h2 q⟩
theorem M_wantFor_144_b37 {d : Nat} {n1 : Int} {Q : MV → Wd → Prop} {x1 x2 x3 : Int} {w : Wd} (g1 : (0 : Int) ≤ w32 ((w32 (109 + (w32 (4 * x3)))) + 3) ∧ w32 ((w32 (109 + (w32 (4 * x3)))) + 3) < 645) (h1 : w 146 (w32 ((w32 (109 + (w32 (4 * x3)))) + 3)).toNat < w 144 59 → Wp (Cw d) cd_M_wantFor (1, 0, n1) Q 52 [mR 144, mI x1, mI x2, mI x3] [] w) (h2 : ¬ (w 146 (w32 ((w32 (109 + (w32 (4 * x3)))) + 3)).toNat < w 144 59) → Wp (Cw d) cd_M_wantFor (1, 0, n1) Q 50 [none, none, none, mI x3] [] w) : Wp (Cw d) cd_M_wantFor (1, 0, n1) Q 37 [mR 144, mI x1, mI x2, mI x3] [] w :=
  Wp.s (Wp.s (Wp.s (Wp.s (Wp.s (Wp.s (Wp.s (Wp.s (Wp.s (Wp.s ⟨g1, Wp.s (Wp.s (Wp.s ⟨fun q => h1 q, fun q => Wp.fgd (leA.f (leA.f (leA.f (leA.k leA.e)))) (h2 q)⟩))⟩)))))))))
theorem M_wantFor_144_b50 {d : Nat} {n1 : Int} {Q : MV → Wd → Prop} {x3 : Int} {w : Wd} (h : Q (mI x3) w) : Wp (Cw d) cd_M_wantFor (1, 0, n1) Q 50 [none, none, none, mI x3] [] w :=
  Wp.s (Wp.s h)
theorem M_wantFor_144_b52 {d : Nat} {n1 : Int} {Q : MV → Wd → Prop} {x1 x2 x3 : Int} {w : Wd} (h : Wp (Cw d) cd_M_wantFor (1, 0, n1) Q 2 [mR 144, mI x1, mI x2, mI (w32 (x3 + 1))] [] w) : Wp (Cw d) cd_M_wantFor (1, 0, n1) Q 52 [mR 144, mI x1, mI x2, mI x3] [] w :=
  Wp.s (Wp.s h)
theorem M_wantFor_144_b54 {d : Nat} {n1 : Int} {Q : MV → Wd → Prop} {w : Wd} (h : Q (mI ((-1))) w) : Wp (Cw d) cd_M_wantFor (1, 0, n1) Q 54 [none, none, none, none] [] w :=
  Wp.s (Wp.s h)
theorem M_whyNot_144_b0 {d : Nat} {n1 : Int} {Q : MV → Wd → Prop} {x1 : Int} {w : Wd} (g1 : (0 : Int) ≤ w32 ((w32 (29 + (w32 (5 * x1)))) + 4) ∧ w32 ((w32 (29 + (w32 (5 * x1)))) + 4) < 645) (h1 : w 146 (w32 ((w32 (29 + (w32 (5 * x1)))) + 4)).toNat ≤ w 144 59 → Wp (Cw d) cd_M_whyNot (1, 0, n1) Q 15 [mR 144, mI x1] [] w) (h2 : ¬ (w 146 (w32 ((w32 (29 + (w32 (5 * x1)))) + 4)).toNat ≤ w 144 59) → Wp (Cw d) cd_M_whyNot (1, 0, n1) Q 13 [none, none] [] w) : Wp (Cw d) cd_M_whyNot (1, 0, n1) Q 0 [mR 144, mI x1] [] w :=
  Wp.s (Wp.s (Wp.s (Wp.s (Wp.s (Wp.s (Wp.s (Wp.s (Wp.s (Wp.s (Wp.s (Wp.s ⟨g1, Wp.s ⟨fun q => h1 q, fun q => Wp.fgd (leA.f (leA.f leA.e)) (h2 q)⟩⟩)))))))))))
theorem M_whyNot_144_b13 {d : Nat} {n1 : Int} {Q : MV → Wd → Prop} {w : Wd} (h : Wp (Cw d) cd_M_whyNot (1, 0, n1) Q 39 [none, none] [mI 1] w) : Wp (Cw d) cd_M_whyNot (1, 0, n1) Q 13 [none, none] [] w :=
  Wp.s (Wp.s h)
theorem M_whyNot_144_b15 {d : Nat} {n1 : Int} {Q : MV → Wd → Prop} {x1 : Int} {w : Wd} (g1 : (0 : Int) ≤ x1 ∧ x1 < 16) (h1 : w 169 x1.toNat = (-2) → Wp (Cw d) cd_M_whyNot (1, 0, n1) Q 27 [none, none] [] w) (h2 : ¬ (w 169 x1.toNat = (-2)) → Wp (Cw d) cd_M_whyNot (1, 0, n1) Q 21 [mR 144, mI x1] [] w) : Wp (Cw d) cd_M_whyNot (1, 0, n1) Q 15 [mR 144, mI x1] [] w :=
  Wp.s (Wp.s (Wp.s (Wp.s ⟨g1, Wp.s (Wp.s ⟨fun q => Wp.fgd (leA.f (leA.f leA.e)) (h1 q), fun q => h2 q⟩)⟩)))
theorem M_whyNot_144_b21 {d : Nat} {n1 : Int} {Q : MV → Wd → Prop} {x1 : Int} {w : Wd} (h : Cw d 201 [mR 144, mI x1] w (fun r w' => Wp (Cw d) cd_M_whyNot (1, 0, n1) Q 26 [mR 144, mI x1] [r, mI (w 144 59)] w')) : Wp (Cw d) cd_M_whyNot (1, 0, n1) Q 21 [mR 144, mI x1] [] w :=
  Wp.s (Wp.s (Wp.s (Wp.s (Wp.s h))))
theorem M_whyNot_144_b26 {d : Nat} {n1 : Int} {Q : MV → Wd → Prop} {x1 s0 s1 : Int} {w : Wd} (h1 : s1 < s0 → Wp (Cw d) cd_M_whyNot (1, 0, n1) Q 29 [mR 144, mI x1] [] w) (h2 : ¬ (s1 < s0) → Wp (Cw d) cd_M_whyNot (1, 0, n1) Q 27 [none, none] [] w) : Wp (Cw d) cd_M_whyNot (1, 0, n1) Q 26 [mR 144, mI x1] [mI s0, mI s1] w :=
  Wp.s ⟨fun q => h1 q, fun q => Wp.fgd (leA.f (leA.f leA.e)) (h2 q)⟩
theorem M_whyNot_144_b27 {d : Nat} {n1 : Int} {Q : MV → Wd → Prop} {w : Wd} (h : Wp (Cw d) cd_M_whyNot (1, 0, n1) Q 39 [none, none] [mI 2] w) : Wp (Cw d) cd_M_whyNot (1, 0, n1) Q 27 [none, none] [] w :=
  Wp.s (Wp.s h)
theorem M_whyNot_144_b29 {d : Nat} {n1 : Int} {Q : MV → Wd → Prop} {x1 : Int} {w : Wd} (g1 : (0 : Int) ≤ x1 ∧ x1 < 16) (h1 : w 171 x1.toNat ≤ w 144 59 → Wp (Cw d) cd_M_whyNot (1, 0, n1) Q 38 [none, none] [] w) (h2 : ¬ (w 171 x1.toNat ≤ w 144 59) → Wp (Cw d) cd_M_whyNot (1, 0, n1) Q 36 [none, none] [] w) : Wp (Cw d) cd_M_whyNot (1, 0, n1) Q 29 [mR 144, mI x1] [] w :=
  Wp.s (Wp.s (Wp.s (Wp.s ⟨g1, Wp.s (Wp.s (Wp.s ⟨fun q => Wp.fgd (leA.f (leA.f leA.e)) (h1 q), fun q => Wp.fgd (leA.f (leA.f leA.e)) (h2 q)⟩))⟩)))
theorem M_whyNot_144_b36 {d : Nat} {n1 : Int} {Q : MV → Wd → Prop} {w : Wd} (h : Wp (Cw d) cd_M_whyNot (1, 0, n1) Q 39 [none, none] [mI 3] w) : Wp (Cw d) cd_M_whyNot (1, 0, n1) Q 36 [none, none] [] w :=
  Wp.s (Wp.s h)
theorem M_whyNot_144_b38 {d : Nat} {n1 : Int} {Q : MV → Wd → Prop} {w : Wd} (h : Wp (Cw d) cd_M_whyNot (1, 0, n1) Q 39 [none, none] [mI 0] w) : Wp (Cw d) cd_M_whyNot (1, 0, n1) Q 38 [none, none] [] w :=
  Wp.s h
theorem M_whyNot_144_b39 {d : Nat} {n1 : Int} {Q : MV → Wd → Prop} {s0 : Int} {w : Wd} (h : Q (mI s0) w) : Wp (Cw d) cd_M_whyNot (1, 0, n1) Q 39 [none, none] [mI s0] w :=
  Wp.s h
theorem M_giver_144_b0 {d : Nat} {n1 : Int} {Q : MV → Wd → Prop} {x1 x2 : Int} {w : Wd} (g1 : (0 : Int) ≤ x1 ∧ x1 < 16) (h1 : w 169 x1.toNat < 0 → Wp (Cw d) cd_M_giver (1, 0, n1) Q 27 [mR 144, mI x1, mI x2, none, none] [] w) (h2 : ¬ (w 169 x1.toNat < 0) → Wp (Cw d) cd_M_giver (1, 0, n1) Q 5 [mR 144, mI x1, mI x2, none, none] [] w) : Wp (Cw d) cd_M_giver (1, 0, n1) Q 0 [mR 144, mI x1, mI x2, none, none] [] w :=
  Wp.s (Wp.s (Wp.s (Wp.s ⟨g1, Wp.s ⟨fun q => h1 q, fun q => h2 q⟩⟩)))
theorem M_giver_144_b5 {d : Nat} {n1 : Int} {Q : MV → Wd → Prop} {x1 x2 : Int} {w : Wd} (g1 : (0 : Int) ≤ x1 ∧ x1 < 16) (g2 : (0 : Int) ≤ w32 ((w32 (269 + (w32 (8 * (w 169 x1.toNat))))) + x2) ∧ w32 ((w32 (269 + (w32 (8 * (w 169 x1.toNat))))) + x2) < 645) (h1 : ¬ w 146 (w32 ((w32 (269 + (w32 (8 * (w 169 x1.toNat))))) + x2)).toNat = 1 → Wp (Cw d) cd_M_giver (1, 0, n1) Q 25 [none, none, none, none, none] [] w) (h2 : ¬ (¬ w 146 (w32 ((w32 (269 + (w32 (8 * (w 169 x1.toNat))))) + x2)).toNat = 1) → Wp (Cw d) cd_M_giver (1, 0, n1) Q 20 [mR 144, mI x1, none, none, none] [] w) : Wp (Cw d) cd_M_giver (1, 0, n1) Q 5 [mR 144, mI x1, mI x2, none, none] [] w :=
  Wp.s (Wp.s (Wp.s (Wp.s (Wp.s (Wp.s (Wp.s (Wp.s ⟨g1, Wp.s (Wp.s (Wp.s (Wp.s (Wp.s ⟨g2, Wp.s (Wp.s ⟨fun q => Wp.fgd (leA.f (leA.f (leA.f (leA.f (leA.f leA.e))))) (h1 q), fun q => Wp.fgd (leA.k (leA.k (leA.f (leA.f (leA.f leA.e))))) (h2 q)⟩)⟩))))⟩)))))))
theorem M_giver_144_b20 {d : Nat} {n1 : Int} {Q : MV → Wd → Prop} {x1 : Int} {w : Wd} (g1 : (0 : Int) ≤ x1 ∧ x1 < 16) (h : Wp (Cw d) cd_M_giver (1, 0, n1) Q 26 [none, none, none, none, none] [mI (w 169 x1.toNat)] w) : Wp (Cw d) cd_M_giver (1, 0, n1) Q 20 [mR 144, mI x1, none, none, none] [] w :=
  Wp.s (Wp.s (Wp.s (Wp.s ⟨g1, Wp.s (Wp.fgd (leA.f (leA.f (leA.f (leA.f (leA.f leA.e))))) h)⟩)))
theorem M_giver_144_b25 {d : Nat} {n1 : Int} {Q : MV → Wd → Prop} {w : Wd} (h : Wp (Cw d) cd_M_giver (1, 0, n1) Q 26 [none, none, none, none, none] [mI ((-1))] w) : Wp (Cw d) cd_M_giver (1, 0, n1) Q 25 [none, none, none, none, none] [] w :=
  Wp.s h
theorem M_giver_144_b26 {d : Nat} {n1 : Int} {Q : MV → Wd → Prop} {s0 : Int} {w : Wd} (h : Q (mI s0) w) : Wp (Cw d) cd_M_giver (1, 0, n1) Q 26 [none, none, none, none, none] [mI s0] w :=
  Wp.s h
theorem M_giver_144_b27 {d : Nat} {n1 : Int} {Q : MV → Wd → Prop} {x1 x2 : Int} {w : Wd} (h : Cw d 243 [mR 144, mI x1] w (fun r w' => Wp (Cw d) cd_M_giver (1, 0, n1) Q 30 [mR 144, mI x1, mI x2, none, none] [r] w')) : Wp (Cw d) cd_M_giver (1, 0, n1) Q 27 [mR 144, mI x1, mI x2, none, none] [] w :=
  Wp.s (Wp.s (Wp.s h))
theorem M_giver_144_b30 {d : Nat} {n1 : Int} {Q : MV → Wd → Prop} {x1 x2 s0 : Int} {w : Wd} (g1 : (0 : Int) ≤ w32 ((w32 (269 + (w32 (8 * s0)))) + x2) ∧ w32 ((w32 (269 + (w32 (8 * s0)))) + x2) < 645) (h1 : ¬ w 146 (w32 ((w32 (269 + (w32 (8 * s0)))) + x2)).toNat = 1 → Wp (Cw d) cd_M_giver (1, 0, n1) Q 45 [mR 144, mI x1, mI x2, mI s0, none] [] w) (h2 : ¬ (¬ w 146 (w32 ((w32 (269 + (w32 (8 * s0)))) + x2)).toNat = 1) → Wp (Cw d) cd_M_giver (1, 0, n1) Q 43 [none, none, none, mI s0, none] [] w) : Wp (Cw d) cd_M_giver (1, 0, n1) Q 30 [mR 144, mI x1, mI x2, none, none] [mI s0] w :=
  Wp.s (Wp.s (Wp.s (Wp.s (Wp.s (Wp.s (Wp.s (Wp.s (Wp.s (Wp.s (Wp.s ⟨g1, Wp.s (Wp.s ⟨fun q => h1 q, fun q => Wp.fgd (leA.f (leA.f (leA.f (leA.k (leA.f leA.e))))) (h2 q)⟩)⟩))))))))))
theorem M_giver_144_b43 {d : Nat} {n1 : Int} {Q : MV → Wd → Prop} {x3 : Int} {w : Wd} (h : Q (mI x3) w) : Wp (Cw d) cd_M_giver (1, 0, n1) Q 43 [none, none, none, mI x3, none] [] w :=
  Wp.s (Wp.s h)
theorem M_giver_144_b45 {d : Nat} {n1 : Int} {Q : MV → Wd → Prop} {x1 x2 x3 : Int} {w : Wd} (g1 : (0 : Int) ≤ w32 ((w32 (29 + (w32 (5 * x1)))) + 2) ∧ w32 ((w32 (29 + (w32 (5 * x1)))) + 2) < 645) (g2 : (0 : Int) ≤ w32 ((w32 (29 + (w32 (5 * x1)))) + 3) ∧ w32 ((w32 (29 + (w32 (5 * x1)))) + 3) < 645) (g3 : (0 : Int) ≤ w32 ((w32 (29 + (w32 (5 * x1)))) + 3) ∧ w32 ((w32 (29 + (w32 (5 * x1)))) + 3) < 645) (h1 : w 146 (w32 ((w32 (29 + (w32 (5 * x1)))) + 3)).toNat < 0 → Wp (Cw d) cd_M_giver (1, 0, n1) Q 94 [none, none, none, none, none] [] w) (h2 : ¬ (w 146 (w32 ((w32 (29 + (w32 (5 * x1)))) + 3)).toNat < 0) → Wp (Cw d) cd_M_giver (1, 0, n1) Q 80 [mR 144, none, mI x2, none, mI (w32 ((w32 ((w 146 (w32 ((w32 (29 + (w32 (5 * x1)))) + 2)).toNat) + (w 146 (w32 ((w32 (29 + (w32 (5 * x1)))) + 3)).toNat))) - x3))] [] w) : Wp (Cw d) cd_M_giver (1, 0, n1) Q 45 [mR 144, mI x1, mI x2, mI x3, none] [] w :=
  Wp.s (Wp.s (Wp.s (Wp.s (Wp.s (Wp.s (Wp.s (Wp.s (Wp.s (Wp.s ⟨g1, Wp.s (Wp.s (Wp.s (Wp.s (Wp.s (Wp.s (Wp.s (Wp.s (Wp.s (Wp.s ⟨g2, Wp.s (Wp.s (Wp.s (Wp.s (Wp.s (Wp.s (Wp.s (Wp.s (Wp.s (Wp.s (Wp.s (Wp.s (Wp.s (Wp.s ⟨g3, Wp.s ⟨fun q => Wp.fgd (leA.f (leA.f (leA.f (leA.f (leA.f leA.e))))) (h1 q), fun q => Wp.fgd (leA.k (leA.f (leA.k (leA.f (leA.k leA.e))))) (h2 q)⟩⟩)))))))))))))⟩)))))))))⟩)))))))))
theorem M_giver_144_b80 {d : Nat} {n1 : Int} {Q : MV → Wd → Prop} {x2 x4 : Int} {w : Wd} (g1 : (0 : Int) ≤ w32 ((w32 (269 + (w32 (8 * x4)))) + x2) ∧ w32 ((w32 (269 + (w32 (8 * x4)))) + x2) < 645) (h1 : ¬ w 146 (w32 ((w32 (269 + (w32 (8 * x4)))) + x2)).toNat = 1 → Wp (Cw d) cd_M_giver (1, 0, n1) Q 94 [none, none, none, none, none] [] w) (h2 : ¬ (¬ w 146 (w32 ((w32 (269 + (w32 (8 * x4)))) + x2)).toNat = 1) → Wp (Cw d) cd_M_giver (1, 0, n1) Q 92 [none, none, none, none, mI x4] [] w) : Wp (Cw d) cd_M_giver (1, 0, n1) Q 80 [mR 144, none, mI x2, none, mI x4] [] w :=
  Wp.s (Wp.s (Wp.s (Wp.s (Wp.s (Wp.s (Wp.s (Wp.s (Wp.s (Wp.s ⟨g1, Wp.s (Wp.s ⟨fun q => Wp.fgd (leA.f (leA.f (leA.f (leA.f (leA.f leA.e))))) (h1 q), fun q => Wp.fgd (leA.f (leA.f (leA.f (leA.f (leA.k leA.e))))) (h2 q)⟩)⟩)))))))))
theorem M_giver_144_b92 {d : Nat} {n1 : Int} {Q : MV → Wd → Prop} {x4 : Int} {w : Wd} (h : Wp (Cw d) cd_M_giver (1, 0, n1) Q 95 [none, none, none, none, none] [mI x4] w) : Wp (Cw d) cd_M_giver (1, 0, n1) Q 92 [none, none, none, none, mI x4] [] w :=
  Wp.s (Wp.s (Wp.fgd (leA.f (leA.f (leA.f (leA.f (leA.f leA.e))))) h))
theorem M_giver_144_b94 {d : Nat} {n1 : Int} {Q : MV → Wd → Prop} {w : Wd} (h : Wp (Cw d) cd_M_giver (1, 0, n1) Q 95 [none, none, none, none, none] [mI ((-1))] w) : Wp (Cw d) cd_M_giver (1, 0, n1) Q 94 [none, none, none, none, none] [] w :=
  Wp.s h
theorem M_giver_144_b95 {d : Nat} {n1 : Int} {Q : MV → Wd → Prop} {s0 : Int} {w : Wd} (h : Q (mI s0) w) : Wp (Cw d) cd_M_giver (1, 0, n1) Q 95 [none, none, none, none, none] [mI s0] w :=
  Wp.s h
theorem M_forbids_144_b0 {d : Nat} {n1 : Int} {Q : MV → Wd → Prop} {x1 x2 x3 : Int} {w : Wd} (g1 : (0 : Int) ≤ x1 ∧ x1 < 16) (h1 : ¬ w 146 5.toNat = 1 → Wp (Cw d) cd_M_forbids (2, 0, n1) Q 28 [mR 144, mI x1, mI x2, mI x3, mI (ior (w 172 x1.toNat) (ishl 1 x2))] [] w) (h2 : ¬ (¬ w 146 5.toNat = 1) → Wp (Cw d) cd_M_forbids (2, 0, n1) Q 15 [mR 144, mI x1, none, mI x3, mI (ior (w 172 x1.toNat) (ishl 1 x2))] [] w) : Wp (Cw d) cd_M_forbids (2, 0, n1) Q 0 [mR 144, mI x1, mI x2, mI x3, none] [] w :=
  Wp.s (Wp.s (Wp.s (Wp.s ⟨g1, Wp.s (Wp.s (Wp.s (Wp.s (Wp.s (Wp.s (Wp.s (Wp.s (Wp.s ⟨(by decide), Wp.s (Wp.s ⟨fun q => h1 q, fun q => Wp.fgd (leA.k (leA.k (leA.f (leA.k (leA.k leA.e))))) (h2 q)⟩)⟩))))))))⟩)))
theorem M_forbids_144_b15 {d : Nat} {n1 : Int} {Q : MV → Wd → Prop} {x1 x3 x4 : Int} {w : Wd} (h : Cw d 211 [mI x4, mI x3] w (fun r w' => Wp (Cw d) cd_M_forbids (2, 0, n1) Q 18 [mR 144, mI x1, none, mI x3, none] [r] w')) : Wp (Cw d) cd_M_forbids (2, 0, n1) Q 15 [mR 144, mI x1, none, mI x3, mI x4] [] w :=
  Wp.s (Wp.s (Wp.s (Cw_mono _ _ _ _ _ _ (fun r w' q => Wp.fgd (leA.k (leA.k (leA.f (leA.k (leA.f leA.e))))) q) h)))
theorem M_forbids_144_b18 {d : Nat} {n1 : Int} {Q : MV → Wd → Prop} {x1 x3 s0 : Int} {w : Wd} (h1 : s0 = 0 → Wp (Cw d) cd_M_forbids (2, 0, n1) Q 26 [none, none, none, none, none] [] w) (h2 : ¬ (s0 = 0) → Wp (Cw d) cd_M_forbids (2, 0, n1) Q 19 [mR 144, mI x1, none, mI x3, none] [] w) : Wp (Cw d) cd_M_forbids (2, 0, n1) Q 18 [mR 144, mI x1, none, mI x3, none] [mI s0] w :=
  Wp.s ⟨fun q => Wp.fgd (leA.f (leA.f (leA.f (leA.f (leA.f leA.e))))) (h1 q), fun q => h2 q⟩
theorem M_forbids_144_b19 {d : Nat} {n1 : Int} {Q : MV → Wd → Prop} {x1 x3 : Int} {w : Wd} (h : Cw d 217 [mR 144, mI x1, mI x3] w (fun r w' => Wp (Cw d) cd_M_forbids (2, 0, n1) Q 23 [none, none, none, none, none] [r] w')) : Wp (Cw d) cd_M_forbids (2, 0, n1) Q 19 [mR 144, mI x1, none, mI x3, none] [] w :=
  Wp.s (Wp.s (Wp.s (Wp.s (Cw_mono _ _ _ _ _ _ (fun r w' q => Wp.fgd (leA.f (leA.f (leA.f (leA.f (leA.f leA.e))))) q) h))))
theorem M_forbids_144_b23 {d : Nat} {n1 : Int} {Q : MV → Wd → Prop} {s0 : Int} {w : Wd} (h1 : ¬ s0 = 0 → Wp (Cw d) cd_M_forbids (2, 0, n1) Q 26 [none, none, none, none, none] [] w) (h2 : ¬ (¬ s0 = 0) → Wp (Cw d) cd_M_forbids (2, 0, n1) Q 24 [none, none, none, none, none] [] w) : Wp (Cw d) cd_M_forbids (2, 0, n1) Q 23 [none, none, none, none, none] [mI s0] w :=
  Wp.s ⟨fun q => h1 q, fun q => h2 q⟩
theorem M_forbids_144_b24 {d : Nat} {n1 : Int} {Q : MV → Wd → Prop} {w : Wd} (h : Wp (Cw d) cd_M_forbids (2, 0, n1) Q 27 [none, none, none, none, none] [mI 1] w) : Wp (Cw d) cd_M_forbids (2, 0, n1) Q 24 [none, none, none, none, none] [] w :=
  Wp.s (Wp.s h)
theorem M_forbids_144_b26 {d : Nat} {n1 : Int} {Q : MV → Wd → Prop} {w : Wd} (h : Wp (Cw d) cd_M_forbids (2, 0, n1) Q 27 [none, none, none, none, none] [mI 0] w) : Wp (Cw d) cd_M_forbids (2, 0, n1) Q 26 [none, none, none, none, none] [] w :=
  Wp.s h
theorem M_forbids_144_b27 {d : Nat} {n1 : Int} {Q : MV → Wd → Prop} {s0 : Int} {w : Wd} (g1 : s0 = 0 ∨ s0 = 1) (h : Q (mI s0) w) : Wp (Cw d) cd_M_forbids (2, 0, n1) Q 27 [none, none, none, none, none] [mI s0] w :=
  Wp.s ⟨g1, h⟩
theorem M_forbids_144_b28 {d : Nat} {n1 : Int} {Q : MV → Wd → Prop} {x1 x2 x3 x4 : Int} {w : Wd} (h1 : ¬ w 146 5.toNat = 2 → Wp (Cw d) cd_M_forbids (2, 0, n1) Q 47 [mR 144, mI x1, mI x2, mI x3, none] [] w) (h2 : ¬ (¬ w 146 5.toNat = 2) → Wp (Cw d) cd_M_forbids (2, 0, n1) Q 34 [mR 144, mI x1, none, mI x3, mI x4] [] w) : Wp (Cw d) cd_M_forbids (2, 0, n1) Q 28 [mR 144, mI x1, mI x2, mI x3, mI x4] [] w :=
  Wp.s (Wp.s (Wp.s (Wp.s ⟨(by decide), Wp.s (Wp.s ⟨fun q => Wp.fgd (leA.k (leA.k (leA.k (leA.k (leA.f leA.e))))) (h1 q), fun q => Wp.fgd (leA.k (leA.k (leA.f (leA.k (leA.k leA.e))))) (h2 q)⟩)⟩)))
theorem M_forbids_144_b34 {d : Nat} {n1 : Int} {Q : MV → Wd → Prop} {x1 x3 x4 : Int} {w : Wd} (h : Cw d 211 [mI x4, mI x3] w (fun r w' => Wp (Cw d) cd_M_forbids (2, 0, n1) Q 37 [mR 144, mI x1, none, mI x3, none] [r] w')) : Wp (Cw d) cd_M_forbids (2, 0, n1) Q 34 [mR 144, mI x1, none, mI x3, mI x4] [] w :=
  Wp.s (Wp.s (Wp.s (Cw_mono _ _ _ _ _ _ (fun r w' q => Wp.fgd (leA.k (leA.k (leA.f (leA.k (leA.f leA.e))))) q) h)))
theorem M_forbids_144_b37 {d : Nat} {n1 : Int} {Q : MV → Wd → Prop} {x1 x3 s0 : Int} {w : Wd} (h1 : ¬ s0 = 0 → Wp (Cw d) cd_M_forbids (2, 0, n1) Q 43 [none, none, none, none, none] [] w) (h2 : ¬ (¬ s0 = 0) → Wp (Cw d) cd_M_forbids (2, 0, n1) Q 38 [mR 144, mI x1, none, mI x3, none] [] w) : Wp (Cw d) cd_M_forbids (2, 0, n1) Q 37 [mR 144, mI x1, none, mI x3, none] [mI s0] w :=
  Wp.s ⟨fun q => Wp.fgd (leA.f (leA.f (leA.f (leA.f (leA.f leA.e))))) (h1 q), fun q => h2 q⟩
theorem M_forbids_144_b38 {d : Nat} {n1 : Int} {Q : MV → Wd → Prop} {x1 x3 : Int} {w : Wd} (h : Cw d 217 [mR 144, mI x1, mI x3] w (fun r w' => Wp (Cw d) cd_M_forbids (2, 0, n1) Q 42 [none, none, none, none, none] [r] w')) : Wp (Cw d) cd_M_forbids (2, 0, n1) Q 38 [mR 144, mI x1, none, mI x3, none] [] w :=
  Wp.s (Wp.s (Wp.s (Wp.s (Cw_mono _ _ _ _ _ _ (fun r w' q => Wp.fgd (leA.f (leA.f (leA.f (leA.f (leA.f leA.e))))) q) h))))
theorem M_forbids_144_b42 {d : Nat} {n1 : Int} {Q : MV → Wd → Prop} {s0 : Int} {w : Wd} (h1 : s0 = 0 → Wp (Cw d) cd_M_forbids (2, 0, n1) Q 45 [none, none, none, none, none] [] w) (h2 : ¬ (s0 = 0) → Wp (Cw d) cd_M_forbids (2, 0, n1) Q 43 [none, none, none, none, none] [] w) : Wp (Cw d) cd_M_forbids (2, 0, n1) Q 42 [none, none, none, none, none] [mI s0] w :=
  Wp.s ⟨fun q => h1 q, fun q => h2 q⟩
theorem M_forbids_144_b43 {d : Nat} {n1 : Int} {Q : MV → Wd → Prop} {w : Wd} (h : Wp (Cw d) cd_M_forbids (2, 0, n1) Q 46 [none, none, none, none, none] [mI 1] w) : Wp (Cw d) cd_M_forbids (2, 0, n1) Q 43 [none, none, none, none, none] [] w :=
  Wp.s (Wp.s h)
theorem M_forbids_144_b45 {d : Nat} {n1 : Int} {Q : MV → Wd → Prop} {w : Wd} (h : Wp (Cw d) cd_M_forbids (2, 0, n1) Q 46 [none, none, none, none, none] [mI 0] w) : Wp (Cw d) cd_M_forbids (2, 0, n1) Q 45 [none, none, none, none, none] [] w :=
  Wp.s h
theorem M_forbids_144_b46 {d : Nat} {n1 : Int} {Q : MV → Wd → Prop} {s0 : Int} {w : Wd} (g1 : s0 = 0 ∨ s0 = 1) (h : Q (mI s0) w) : Wp (Cw d) cd_M_forbids (2, 0, n1) Q 46 [none, none, none, none, none] [mI s0] w :=
  Wp.s ⟨g1, h⟩
theorem M_forbids_144_b47 {d : Nat} {n1 : Int} {Q : MV → Wd → Prop} {x1 x2 x3 : Int} {w : Wd} (h1 : ¬ w 146 5.toNat = 3 → Wp (Cw d) cd_M_forbids (2, 0, n1) Q 76 [none, none, none, none, none] [] w) (h2 : ¬ (¬ w 146 5.toNat = 3) → Wp (Cw d) cd_M_forbids (2, 0, n1) Q 53 [mR 144, mI x1, mI x2, mI x3, none] [] w) : Wp (Cw d) cd_M_forbids (2, 0, n1) Q 47 [mR 144, mI x1, mI x2, mI x3, none] [] w :=
  Wp.s (Wp.s (Wp.s (Wp.s ⟨(by decide), Wp.s (Wp.s ⟨fun q => Wp.fgd (leA.f (leA.f (leA.f (leA.f (leA.f leA.e))))) (h1 q), fun q => h2 q⟩)⟩)))
theorem M_forbids_144_b53 {d : Nat} {n1 : Int} {Q : MV → Wd → Prop} {x1 x2 x3 : Int} {w : Wd} (g1 : (0 : Int) ≤ x1 ∧ x1 < 16) (g2 : (0 : Int) ≤ w32 (7 + x2) ∧ w32 (7 + x2) < 645) (g3 : (0 : Int) ≤ w32 (7 + x3) ∧ w32 (7 + x3) < 645) (h : Cw d 211 [mI (ior (w 173 x1.toNat) (ishl 1 (w 146 (w32 (7 + x2)).toNat))), mI (w 146 (w32 (7 + x3)).toNat)] w (fun r w' => Wp (Cw d) cd_M_forbids (2, 0, n1) Q 73 [none, none, none, none, none] [r] w')) : Wp (Cw d) cd_M_forbids (2, 0, n1) Q 53 [mR 144, mI x1, mI x2, mI x3, none] [] w :=
  Wp.s (Wp.s (Wp.s (Wp.s ⟨g1, Wp.s (Wp.s (Wp.s (Wp.s (Wp.s (Wp.s (Wp.s ⟨g2, Wp.s (Wp.s (Wp.s (Wp.s (Wp.s (Wp.s (Wp.s (Wp.s ⟨g3, Wp.s (Cw_mono _ _ _ _ _ _ (fun r w' q => Wp.fgd (leA.f (leA.f (leA.f (leA.f (leA.f leA.e))))) q) h)⟩)))))))⟩))))))⟩)))
theorem M_forbids_144_b73 {d : Nat} {n1 : Int} {Q : MV → Wd → Prop} {s0 : Int} {w : Wd} (h1 : s0 = 0 → Wp (Cw d) cd_M_forbids (2, 0, n1) Q 76 [none, none, none, none, none] [] w) (h2 : ¬ (s0 = 0) → Wp (Cw d) cd_M_forbids (2, 0, n1) Q 74 [none, none, none, none, none] [] w) : Wp (Cw d) cd_M_forbids (2, 0, n1) Q 73 [none, none, none, none, none] [mI s0] w :=
  Wp.s ⟨fun q => h1 q, fun q => h2 q⟩
theorem M_forbids_144_b74 {d : Nat} {n1 : Int} {Q : MV → Wd → Prop} {w : Wd} (h : Wp (Cw d) cd_M_forbids (2, 0, n1) Q 77 [none, none, none, none, none] [mI 1] w) : Wp (Cw d) cd_M_forbids (2, 0, n1) Q 74 [none, none, none, none, none] [] w :=
  Wp.s (Wp.s h)
theorem M_forbids_144_b76 {d : Nat} {n1 : Int} {Q : MV → Wd → Prop} {w : Wd} (h : Wp (Cw d) cd_M_forbids (2, 0, n1) Q 77 [none, none, none, none, none] [mI 0] w) : Wp (Cw d) cd_M_forbids (2, 0, n1) Q 76 [none, none, none, none, none] [] w :=
  Wp.s h
theorem M_forbids_144_b77 {d : Nat} {n1 : Int} {Q : MV → Wd → Prop} {s0 : Int} {w : Wd} (g1 : s0 = 0 ∨ s0 = 1) (h : Q (mI s0) w) : Wp (Cw d) cd_M_forbids (2, 0, n1) Q 77 [none, none, none, none, none] [mI s0] w :=
  Wp.s ⟨g1, h⟩
theorem Terms_reset_114_b0 {d : Nat} {n1 : Int} {Q : MV → Wd → Prop} {w : Wd} (h : Cw d 48 [mR 8, mR 115] (ub (ub w 114 1 (w 4 15)) 114 2 (w 4 16)) (fun _ w' => Wp (Cw d) cd_Terms_reset (0, 0, n1) Q 16 [mR 114] [] w')) : Wp (Cw d) cd_Terms_reset (0, 0, n1) Q 0 [mR 114] [] w :=
  Wp.s (Wp.s (Wp.s (Wp.s (Wp.s (Wp.s (Wp.s (Wp.s (Wp.s (Wp.s (Wp.s (Wp.s (Wp.s (Wp.s (Wp.s (Wp.s h)))))))))))))))
theorem Terms_reset_114_b16 {d : Nat} {n1 : Int} {Q : MV → Wd → Prop} {w : Wd} (h : Cw d 48 [mR 14, mR 116] w (fun _ w' => Wp (Cw d) cd_Terms_reset (0, 0, n1) Q 22 [mR 114] [] w')) : Wp (Cw d) cd_Terms_reset (0, 0, n1) Q 16 [mR 114] [] w :=
  Wp.s (Wp.s (Wp.s (Wp.s (Wp.s (Wp.s h)))))
theorem Terms_reset_114_b22 {d : Nat} {n1 : Int} {Q : MV → Wd → Prop} {w : Wd} (h : Cw d 48 [mR 15, mR 117] w (fun _ w' => Wp (Cw d) cd_Terms_reset (0, 0, n1) Q 28 [mR 114] [] w')) : Wp (Cw d) cd_Terms_reset (0, 0, n1) Q 22 [mR 114] [] w :=
  Wp.s (Wp.s (Wp.s (Wp.s (Wp.s (Wp.s h)))))
theorem Terms_reset_114_b28 {d : Nat} {n1 : Int} {Q : MV → Wd → Prop} {w : Wd} (h : Q none (ub (ub w 114 6 ((-1))) 114 7 ((-1)))) : Wp (Cw d) cd_Terms_reset (0, 0, n1) Q 28 [mR 114] [] w :=
  Wp.s (Wp.s (Wp.s (Wp.s (Wp.s (Wp.s (Wp.s h))))))
theorem Village_firsts_4_b0 {d : Nat} {n1 : Int} {Q : MV → Wd → Prop} {x1 : Int} {w : Wd} (h : Cw d 61 [mR 4, mI x1, mI 2] w (fun r w' => Wp (Cw d) cd_Village_firsts (1, 0, n1) Q 4 [mR 4, mI x1, none] [r] w')) : Wp (Cw d) cd_Village_firsts (1, 0, n1) Q 0 [mR 4, mI x1, none] [] w :=
  Wp.s (Wp.s (Wp.s (Wp.s h)))
theorem Village_firsts_4_b4 {d : Nat} {n1 : Int} {Q : MV → Wd → Prop} {x1 s0 : Int} {w : Wd} (h : Cw d 61 [mR 4, mI x1, mI 1] w (fun r w' => Wp (Cw d) cd_Village_firsts (1, 0, n1) Q 10 [none, none, mI s0] [r, mI 1] w')) : Wp (Cw d) cd_Village_firsts (1, 0, n1) Q 4 [mR 4, mI x1, none] [mI s0] w :=
  Wp.s (Wp.s (Wp.s (Wp.s (Wp.s (Wp.s (Cw_mono _ _ _ _ _ _ (fun r w' q => Wp.fgd (leA.f (leA.f (leA.k leA.e))) q) h))))))
theorem Village_firsts_4_b10 {d : Nat} {n1 : Int} {Q : MV → Wd → Prop} {x2 s0 s1 : Int} {w : Wd} (h1 : ¬ x2 = (-1) → Wp (Cw d) cd_Village_firsts (1, 0, n1) Q 16 [none, none, mI x2] [mI (ishl s1 s0)] w) (h2 : ¬ (¬ x2 = (-1)) → Wp (Cw d) cd_Village_firsts (1, 0, n1) Q 14 [none, none, none] [mI (ishl s1 s0)] w) : Wp (Cw d) cd_Village_firsts (1, 0, n1) Q 10 [none, none, mI x2] [mI s0, mI s1] w :=
  Wp.s (Wp.s (Wp.s (Wp.s ⟨fun q => h1 q, fun q => Wp.fgd (leA.f (leA.f (leA.f leA.e))) (h2 q)⟩)))
theorem Village_firsts_4_b14 {d : Nat} {n1 : Int} {Q : MV → Wd → Prop} {s0 : Int} {w : Wd} (h : Wp (Cw d) cd_Village_firsts (1, 0, n1) Q 19 [none, none, none] [mI 0, mI s0] w) : Wp (Cw d) cd_Village_firsts (1, 0, n1) Q 14 [none, none, none] [mI s0] w :=
  Wp.s (Wp.s h)
theorem Village_firsts_4_b16 {d : Nat} {n1 : Int} {Q : MV → Wd → Prop} {x2 s0 : Int} {w : Wd} (h : Wp (Cw d) cd_Village_firsts (1, 0, n1) Q 19 [none, none, none] [mI (ishl 1 x2), mI s0] w) : Wp (Cw d) cd_Village_firsts (1, 0, n1) Q 16 [none, none, mI x2] [mI s0] w :=
  Wp.s (Wp.s (Wp.s (Wp.fgd (leA.f (leA.f (leA.f leA.e))) h)))
theorem Village_firsts_4_b19 {d : Nat} {n1 : Int} {Q : MV → Wd → Prop} {s0 s1 : Int} {w : Wd} (h : Q (mI (ior s1 s0)) w) : Wp (Cw d) cd_Village_firsts (1, 0, n1) Q 19 [none, none, none] [mI s0, mI s1] w :=
  Wp.s (Wp.s h)
theorem Ways_measureRooms_113_b0 {d : Nat} {n1 : Int} {Q : MV → Wd → Prop} {w : Wd} (h : Wp (Cw d) cd_Ways_measureRooms (0, 0, n1) Q 8 [mR 113, mI 0, none] [] (ub (ub w 113 9 0) 113 10 ((-1)))) : Wp (Cw d) cd_Ways_measureRooms (0, 0, n1) Q 0 [mR 113, none, none] [] w :=
  Wp.s (Wp.s (Wp.s (Wp.s (Wp.s (Wp.s (Wp.s (Wp.s h)))))))
theorem Ways_measureRooms_113_b8 {d : Nat} {n1 : Int} {Q : MV → Wd → Prop} {x1 : Int} {w : Wd} (h1 : w 4 11 ≤ x1 → Wp (Cw d) cd_Ways_measureRooms (0, 0, n1) Q 87 [none, none, none] [] w) (h2 : ¬ (w 4 11 ≤ x1) → Wp (Cw d) cd_Ways_measureRooms (0, 0, n1) Q 13 [mR 113, mI x1, none] [] w) : Wp (Cw d) cd_Ways_measureRooms (0, 0, n1) Q 8 [mR 113, mI x1, none] [] w :=
  Wp.s (Wp.s (Wp.s (Wp.s (Wp.s ⟨fun q => Wp.fgd (leA.f (leA.f (leA.f leA.e))) (h1 q), fun q => h2 q⟩))))
theorem Ways_measureRooms_113_b13 {d : Nat} {n1 : Int} {Q : MV → Wd → Prop} {x1 : Int} {w : Wd} (g1 : (0 : Int) ≤ x1 ∧ x1 < 8) (h : Cw d 63 [mR 4, mI x1, mI 1] (ub w 119 x1.toNat ((-1))) (fun r w' => Wp (Cw d) cd_Ways_measureRooms (0, 0, n1) Q 23 [mR 113, mI x1, none] [r] w')) : Wp (Cw d) cd_Ways_measureRooms (0, 0, n1) Q 13 [mR 113, mI x1, none] [] w :=
  Wp.s (Wp.s (Wp.s (Wp.s (Wp.s ⟨g1, Wp.s (Wp.s (Wp.s (Wp.s (Wp.s h))))⟩))))
theorem Ways_measureRooms_113_b23 {d : Nat} {n1 : Int} {Q : MV → Wd → Prop} {x1 s0 : Int} {w : Wd} (h : Cw d 61 [mR 4, mI (w 113 7), mI 0] w (fun r w' => Wp (Cw d) cd_Ways_measureRooms (0, 0, n1) Q 29 [mR 113, mI x1, none] [r, mI s0] w')) : Wp (Cw d) cd_Ways_measureRooms (0, 0, n1) Q 23 [mR 113, mI x1, none] [mI s0] w :=
  Wp.s (Wp.s (Wp.s (Wp.s (Wp.s (Wp.s h)))))
theorem Ways_measureRooms_113_b29 {d : Nat} {n1 : Int} {Q : MV → Wd → Prop} {x1 s0 s1 : Int} {w : Wd} (h1 : ¬ s1 = s0 → Wp (Cw d) cd_Ways_measureRooms (0, 0, n1) Q 85 [mR 113, mI x1, none] [] w) (h2 : ¬ (¬ s1 = s0) → Wp (Cw d) cd_Ways_measureRooms (0, 0, n1) Q 30 [mR 113, mI x1, none] [] w) : Wp (Cw d) cd_Ways_measureRooms (0, 0, n1) Q 29 [mR 113, mI x1, none] [mI s0, mI s1] w :=
  Wp.s ⟨fun q => h1 q, fun q => h2 q⟩
theorem Ways_measureRooms_113_b30 {d : Nat} {n1 : Int} {Q : MV → Wd → Prop} {x1 : Int} {w : Wd} (h : Cw d 63 [mR 4, mI x1, mI 3] w (fun r w' => Wp (Cw d) cd_Ways_measureRooms (0, 0, n1) Q 35 [mR 113, mI x1, none] [r] w')) : Wp (Cw d) cd_Ways_measureRooms (0, 0, n1) Q 30 [mR 113, mI x1, none] [] w :=
  Wp.s (Wp.s (Wp.s (Wp.s (Wp.s h))))
theorem Ways_measureRooms_113_b35 {d : Nat} {n1 : Int} {Q : MV → Wd → Prop} {x1 s0 : Int} {w : Wd} (h : Cw d 61 [mR 4, mI (w 113 7), mI 4] w (fun r w' => Wp (Cw d) cd_Ways_measureRooms (0, 0, n1) Q 41 [mR 113, mI x1, none] [r, mI s0] w')) : Wp (Cw d) cd_Ways_measureRooms (0, 0, n1) Q 35 [mR 113, mI x1, none] [mI s0] w :=
  Wp.s (Wp.s (Wp.s (Wp.s (Wp.s (Wp.s h)))))
theorem Ways_measureRooms_113_b41 {d : Nat} {n1 : Int} {Q : MV → Wd → Prop} {x1 s0 s1 : Int} {w : Wd} (h : Cw d 61 [mR 4, mI (w 113 7), mI 3] w (fun r w' => Wp (Cw d) cd_Ways_measureRooms (0, 0, n1) Q 55 [mR 113, mI x1, none] [r, mI (min s1 (w32 (s0 - 1))), mI x1, mR 119] w')) : Wp (Cw d) cd_Ways_measureRooms (0, 0, n1) Q 41 [mR 113, mI x1, none] [mI s0, mI s1] w :=
  Wp.s (Wp.s (Wp.s (Wp.s (Wp.s (Wp.s (Wp.s (Wp.s (Wp.s (Wp.s (Wp.s (Wp.s (Wp.s (Wp.s (Cw_mono _ _ _ _ _ _ (fun r w' q => Wp.fgd (leA.k (leA.k (leA.f leA.e))) q) h))))))))))))))
theorem Ways_measureRooms_113_b55 {d : Nat} {n1 : Int} {Q : MV → Wd → Prop} {x1 s0 s1 s2 : Int} {w : Wd} (g1 : (0 : Int) ≤ s2 ∧ s2 < 8) (g2 : (0 : Int) ≤ x1 ∧ x1 < 8) (g3 : (0 : Int) ≤ x1 ∧ x1 < 8) (h1 : 0 ≤ (up1 (w 119) s2.toNat (w32 (s1 - s0))) x1.toNat → Wp (Cw d) cd_Ways_measureRooms (0, 0, n1) Q 76 [mR 113, mI x1, none] [mI ((up1 (w 113) 10 (max (w 113 10) ((up1 (w 119) s2.toNat (w32 (s1 - s0))) x1.toNat))) 9), mR 113] (ub (ub w 119 s2.toNat (w32 (s1 - s0))) 113 10 (max (w 113 10) ((up1 (w 119) s2.toNat (w32 (s1 - s0))) x1.toNat)))) (h2 : ¬ (0 ≤ (up1 (w 119) s2.toNat (w32 (s1 - s0))) x1.toNat) → Wp (Cw d) cd_Ways_measureRooms (0, 0, n1) Q 74 [mR 113, mI x1, none] [mI ((up1 (w 113) 10 (max (w 113 10) ((up1 (w 119) s2.toNat (w32 (s1 - s0))) x1.toNat))) 9), mR 113] (ub (ub w 119 s2.toNat (w32 (s1 - s0))) 113 10 (max (w 113 10) ((up1 (w 119) s2.toNat (w32 (s1 - s0))) x1.toNat)))) : Wp (Cw d) cd_Ways_measureRooms (0, 0, n1) Q 55 [mR 113, mI x1, none] [mI s0, mI s1, mI s2, mR 119] w :=
  Wp.s (Wp.s ⟨g1, Wp.s (Wp.s (Wp.s (Wp.s (Wp.s (Wp.s (Wp.s ⟨g2, Wp.s (Wp.s (Wp.s (Wp.s (Wp.s (Wp.s (Wp.s (Wp.s (Wp.s ⟨g3, Wp.s ⟨fun q => h1 q, fun q => h2 q⟩⟩))))))))⟩))))))⟩)
theorem Ways_measureRooms_113_b74 {d : Nat} {n1 : Int} {Q : MV → Wd → Prop} {x1 s0 : Int} {w : Wd} (h : Wp (Cw d) cd_Ways_measureRooms (0, 0, n1) Q 83 [mR 113, mI x1, none] [mI 0, mI s0, mR 113] w) : Wp (Cw d) cd_Ways_measureRooms (0, 0, n1) Q 74 [mR 113, mI x1, none] [mI s0, mR 113] w :=
  Wp.s (Wp.s h)
theorem Ways_measureRooms_113_b76 {d : Nat} {n1 : Int} {Q : MV → Wd → Prop} {x1 s0 : Int} {w : Wd} (h : Cw d 63 [mR 4, mI x1, mI 0] w (fun r w' => Wp (Cw d) cd_Ways_measureRooms (0, 0, n1) Q 82 [mR 113, mI x1, none] [r, mI 1, mI s0, mR 113] w')) : Wp (Cw d) cd_Ways_measureRooms (0, 0, n1) Q 76 [mR 113, mI x1, none] [mI s0, mR 113] w :=
  Wp.s (Wp.s (Wp.s (Wp.s (Wp.s (Wp.s h)))))
theorem Ways_measureRooms_113_b82 {d : Nat} {n1 : Int} {Q : MV → Wd → Prop} {x1 s0 s1 s2 : Int} {w : Wd} (h : Wp (Cw d) cd_Ways_measureRooms (0, 0, n1) Q 83 [mR 113, mI x1, none] [mI (ishl s1 s0), mI s2, mR 113] w) : Wp (Cw d) cd_Ways_measureRooms (0, 0, n1) Q 82 [mR 113, mI x1, none] [mI s0, mI s1, mI s2, mR 113] w :=
  Wp.s h
theorem Ways_measureRooms_113_b83 {d : Nat} {n1 : Int} {Q : MV → Wd → Prop} {x1 s0 s1 : Int} {w : Wd} (h : Wp (Cw d) cd_Ways_measureRooms (0, 0, n1) Q 85 [mR 113, mI x1, none] [] (ub w 113 9 (ior s1 s0))) : Wp (Cw d) cd_Ways_measureRooms (0, 0, n1) Q 83 [mR 113, mI x1, none] [mI s0, mI s1, mR 113] w :=
  Wp.s (Wp.s h)
theorem Ways_measureRooms_113_b85 {d : Nat} {n1 : Int} {Q : MV → Wd → Prop} {x1 : Int} {w : Wd} (h : Wp (Cw d) cd_Ways_measureRooms (0, 0, n1) Q 8 [mR 113, mI (w32 (x1 + 1)), none] [] w) : Wp (Cw d) cd_Ways_measureRooms (0, 0, n1) Q 85 [mR 113, mI x1, none] [] w :=
  Wp.s (Wp.s h)
theorem Ways_measureRooms_113_b87 {d : Nat} {n1 : Int} {Q : MV → Wd → Prop} {w : Wd} (h : Q none w) : Wp (Cw d) cd_Ways_measureRooms (0, 0, n1) Q 87 [none, none, none] [] w :=
  Wp.s h
theorem Ways_onward_113_b0 {d : Nat} {n1 : Int} {Q : MV → Wd → Prop} {x1 : Int} {w : Wd} (h1 : w32 ((w 114 1) - 1) ≤ x1 → Wp (Cw d) cd_Ways_onward (0, 0, n1) Q 10 [mR 113, mI x1, none, none, none] [] w) (h2 : ¬ (w32 ((w 114 1) - 1) ≤ x1) → Wp (Cw d) cd_Ways_onward (0, 0, n1) Q 7 [mR 113, mI x1, none, none, none] [] w) : Wp (Cw d) cd_Ways_onward (0, 0, n1) Q 0 [mR 113, mI x1, none, none, none] [] w :=
  Wp.s (Wp.s (Wp.s (Wp.s (Wp.s (Wp.s (Wp.s ⟨fun q => h1 q, fun q => h2 q⟩))))))
theorem Ways_onward_113_b7 {d : Nat} {n1 : Int} {Q : MV → Wd → Prop} {x1 : Int} {w : Wd} (h1 : x1 < 5 → Wp (Cw d) cd_Ways_onward (0, 0, n1) Q 14 [mR 113, mI x1, none, none, none] [] w) (h2 : ¬ (x1 < 5) → Wp (Cw d) cd_Ways_onward (0, 0, n1) Q 10 [mR 113, mI x1, none, none, none] [] w) : Wp (Cw d) cd_Ways_onward (0, 0, n1) Q 7 [mR 113, mI x1, none, none, none] [] w :=
  Wp.s (Wp.s (Wp.s ⟨fun q => h1 q, fun q => h2 q⟩))
theorem Ways_onward_113_b10 {d : Nat} {n1 : Int} {Q : MV → Wd → Prop} {x1 : Int} {w : Wd} (h : Cw d 65 [mR 113, mI x1] w (fun _ w' => Wp (Cw d) cd_Ways_onward (0, 0, n1) Q 13 [none, none, none, none, none] [] w')) : Wp (Cw d) cd_Ways_onward (0, 0, n1) Q 10 [mR 113, mI x1, none, none, none] [] w :=
  Wp.s (Wp.s (Wp.s (Cw_mono _ _ _ _ _ _ (fun r w' q => Wp.fgd (leA.f (leA.f (leA.f (leA.f (leA.f leA.e))))) q) h)))
theorem Ways_onward_113_b13 {d : Nat} {n1 : Int} {Q : MV → Wd → Prop} {w : Wd} (h : Q none w) : Wp (Cw d) cd_Ways_onward (0, 0, n1) Q 13 [none, none, none, none, none] [] w :=
  Wp.s h
theorem Ways_onward_113_b14 {d : Nat} {n1 : Int} {Q : MV → Wd → Prop} {x1 : Int} {w : Wd} (g1 : (0 : Int) ≤ x1 ∧ x1 < 6) (h : Cw d 66 [mI (w 114 7), mI (w 122 x1.toNat)] w (fun r w' => Wp (Cw d) cd_Ways_onward (0, 0, n1) Q 22 [mR 113, mI x1, none, none, none] [r] w')) : Wp (Cw d) cd_Ways_onward (0, 0, n1) Q 14 [mR 113, mI x1, none, none, none] [] w :=
  Wp.s (Wp.s (Wp.s (Wp.s (Wp.s (Wp.s (Wp.s ⟨g1, Wp.s h⟩))))))
theorem Ways_onward_113_b22 {d : Nat} {n1 : Int} {Q : MV → Wd → Prop} {x1 s0 : Int} {w : Wd} (h1 : ¬ s0 = 0 → Wp (Cw d) cd_Ways_onward (0, 0, n1) Q 24 [mR 113, mI x1, none, none, none] [] w) (h2 : ¬ (¬ s0 = 0) → Wp (Cw d) cd_Ways_onward (0, 0, n1) Q 23 [none, none, none, none, none] [] w) : Wp (Cw d) cd_Ways_onward (0, 0, n1) Q 22 [mR 113, mI x1, none, none, none] [mI s0] w :=
  Wp.s ⟨fun q => h1 q, fun q => Wp.fgd (leA.f (leA.f (leA.f (leA.f (leA.f leA.e))))) (h2 q)⟩
theorem Ways_onward_113_b23 {d : Nat} {n1 : Int} {Q : MV → Wd → Prop} {w : Wd} (h : Q none w) : Wp (Cw d) cd_Ways_onward (0, 0, n1) Q 23 [none, none, none, none, none] [] w :=
  Wp.s h
theorem Ways_onward_113_b24 {d : Nat} {n1 : Int} {Q : MV → Wd → Prop} {x1 : Int} {w : Wd} (h1 : ¬ w32 (x1 + 1) = w32 ((w 114 1) - 1) → Wp (Cw d) cd_Ways_onward (0, 0, n1) Q 39 [mR 113, mI x1, none, none, none] [mI (w 114 6)] w) (h2 : ¬ (¬ w32 (x1 + 1) = w32 ((w 114 1) - 1)) → Wp (Cw d) cd_Ways_onward (0, 0, n1) Q 36 [mR 113, mI x1, none, none, none] [mI (w 114 6)] w) : Wp (Cw d) cd_Ways_onward (0, 0, n1) Q 24 [mR 113, mI x1, none, none, none] [] w :=
  Wp.s (Wp.s (Wp.s (Wp.s (Wp.s (Wp.s (Wp.s (Wp.s (Wp.s (Wp.s (Wp.s (Wp.s ⟨fun q => h1 q, fun q => h2 q⟩)))))))))))
theorem Ways_onward_113_b36 {d : Nat} {n1 : Int} {Q : MV → Wd → Prop} {x1 s0 : Int} {w : Wd} (h : Wp (Cw d) cd_Ways_onward (0, 0, n1) Q 40 [mR 113, mI x1, none, none, none] [mI (w 113 9), mI s0] w) : Wp (Cw d) cd_Ways_onward (0, 0, n1) Q 36 [mR 113, mI x1, none, none, none] [mI s0] w :=
  Wp.s (Wp.s (Wp.s h))
theorem Ways_onward_113_b39 {d : Nat} {n1 : Int} {Q : MV → Wd → Prop} {x1 s0 : Int} {w : Wd} (h : Wp (Cw d) cd_Ways_onward (0, 0, n1) Q 40 [mR 113, mI x1, none, none, none] [mI ((-1)), mI s0] w) : Wp (Cw d) cd_Ways_onward (0, 0, n1) Q 39 [mR 113, mI x1, none, none, none] [mI s0] w :=
  Wp.s h
theorem Ways_onward_113_b40 {d : Nat} {n1 : Int} {Q : MV → Wd → Prop} {x1 s0 s1 : Int} {w : Wd} (h : Wp (Cw d) cd_Ways_onward (0, 0, n1) Q 44 [mR 113, mI x1, mI (iand s1 s0), mI 0, none] [] w) : Wp (Cw d) cd_Ways_onward (0, 0, n1) Q 40 [mR 113, mI x1, none, none, none] [mI s0, mI s1] w :=
  Wp.s (Wp.s (Wp.s (Wp.s h)))
theorem Ways_onward_113_b44 {d : Nat} {n1 : Int} {Q : MV → Wd → Prop} {x1 x2 x3 : Int} {w : Wd} (h1 : w 4 0 ≤ x3 → Wp (Cw d) cd_Ways_onward (0, 0, n1) Q 103 [none, none, none, none, none] [] w) (h2 : ¬ (w 4 0 ≤ x3) → Wp (Cw d) cd_Ways_onward (0, 0, n1) Q 49 [mR 113, mI x1, mI x2, mI x3, none] [] w) : Wp (Cw d) cd_Ways_onward (0, 0, n1) Q 44 [mR 113, mI x1, mI x2, mI x3, none] [] w :=
  Wp.s (Wp.s (Wp.s (Wp.s (Wp.s ⟨fun q => Wp.fgd (leA.f (leA.f (leA.f (leA.f (leA.f leA.e))))) (h1 q), fun q => h2 q⟩))))
theorem Ways_onward_113_b49 {d : Nat} {n1 : Int} {Q : MV → Wd → Prop} {x1 x2 x3 : Int} {w : Wd} (g1 : (0 : Int) ≤ x1 ∧ x1 < 6) (h : Cw d 66 [mI x2, mI x3] w (fun r w' => Wp (Cw d) cd_Ways_onward (0, 0, n1) Q 61 [mR 113, mI x1, mI x2, mI x3, mI (w32 ((w32 ((w 122 x1.toNat) * 8)) + x3))] [r] w')) : Wp (Cw d) cd_Ways_onward (0, 0, n1) Q 49 [mR 113, mI x1, mI x2, mI x3, none] [] w :=
  Wp.s (Wp.s (Wp.s (Wp.s ⟨g1, Wp.s (Wp.s (Wp.s (Wp.s (Wp.s (Wp.s (Wp.s (Wp.s h)))))))⟩)))
theorem Ways_onward_113_b61 {d : Nat} {n1 : Int} {Q : MV → Wd → Prop} {x1 x2 x3 x4 s0 : Int} {w : Wd} (h1 : s0 = 0 → Wp (Cw d) cd_Ways_onward (0, 0, n1) Q 101 [mR 113, mI x1, mI x2, mI x3, none] [] w) (h2 : ¬ (s0 = 0) → Wp (Cw d) cd_Ways_onward (0, 0, n1) Q 62 [mR 113, mI x1, mI x2, mI x3, mI x4] [] w) : Wp (Cw d) cd_Ways_onward (0, 0, n1) Q 61 [mR 113, mI x1, mI x2, mI x3, mI x4] [mI s0] w :=
  Wp.s ⟨fun q => Wp.fgd (leA.k (leA.k (leA.k (leA.k (leA.f leA.e))))) (h1 q), fun q => h2 q⟩
theorem Ways_onward_113_b62 {d : Nat} {n1 : Int} {Q : MV → Wd → Prop} {x1 x2 x3 x4 : Int} {w : Wd} (g1 : (0 : Int) ≤ x4 ∧ x4 < 64) (h1 : w 116 x4.toNat = (-1) → Wp (Cw d) cd_Ways_onward (0, 0, n1) Q 101 [mR 113, mI x1, mI x2, mI x3, none] [] w) (h2 : ¬ (w 116 x4.toNat = (-1)) → Wp (Cw d) cd_Ways_onward (0, 0, n1) Q 69 [mR 113, mI x1, mI x2, mI x3, mI x4] [] w) : Wp (Cw d) cd_Ways_onward (0, 0, n1) Q 62 [mR 113, mI x1, mI x2, mI x3, mI x4] [] w :=
  Wp.s (Wp.s (Wp.s (Wp.s (Wp.s ⟨g1, Wp.s (Wp.s ⟨fun q => Wp.fgd (leA.k (leA.k (leA.k (leA.k (leA.f leA.e))))) (h1 q), fun q => h2 q⟩)⟩))))
theorem Ways_onward_113_b69 {d : Nat} {n1 : Int} {Q : MV → Wd → Prop} {x1 x2 x3 x4 : Int} {w : Wd} (g1 : (0 : Int) ≤ x1 ∧ x1 < 6) (g2 : (0 : Int) ≤ x4 ∧ x4 < 64) (h1 : w 113 10 < w32 ((w 124 x1.toNat) + (w 117 x4.toNat)) → Wp (Cw d) cd_Ways_onward (0, 0, n1) Q 101 [mR 113, mI x1, mI x2, mI x3, none] [] w) (h2 : ¬ (w 113 10 < w32 ((w 124 x1.toNat) + (w 117 x4.toNat))) → Wp (Cw d) cd_Ways_onward (0, 0, n1) Q 82 [mR 113, mI x1, mI x2, mI x3, mI x4] [] w) : Wp (Cw d) cd_Ways_onward (0, 0, n1) Q 69 [mR 113, mI x1, mI x2, mI x3, mI x4] [] w :=
  Wp.s (Wp.s (Wp.s (Wp.s ⟨g1, Wp.s (Wp.s (Wp.s (Wp.s (Wp.s ⟨g2, Wp.s (Wp.s (Wp.s (Wp.s ⟨fun q => Wp.fgd (leA.k (leA.k (leA.k (leA.k (leA.f leA.e))))) (h1 q), fun q => h2 q⟩)))⟩))))⟩)))
theorem Ways_onward_113_b82 {d : Nat} {n1 : Int} {Q : MV → Wd → Prop} {x1 x2 x3 x4 : Int} {w : Wd} (g1 : (0 : Int) ≤ x1 ∧ x1 < 6) (h : Cw d 67 [mR 4, mI (w 114 2), mI (w 113 8), mI (w 123 x1.toNat), mI x3] w (fun r w' => Wp (Cw d) cd_Ways_onward (0, 0, n1) Q 95 [mR 113, mI x1, mI x2, mI x3, mI x4] [r] w')) : Wp (Cw d) cd_Ways_onward (0, 0, n1) Q 82 [mR 113, mI x1, mI x2, mI x3, mI x4] [] w :=
  Wp.s (Wp.s (Wp.s (Wp.s (Wp.s (Wp.s (Wp.s (Wp.s (Wp.s (Wp.s (Wp.s ⟨g1, Wp.s (Wp.s h)⟩))))))))))
theorem Ways_onward_113_b95 {d : Nat} {n1 : Int} {Q : MV → Wd → Prop} {x1 x2 x3 x4 s0 : Int} {w : Wd} (h1 : s0 = 0 → Wp (Cw d) cd_Ways_onward (0, 0, n1) Q 101 [mR 113, mI x1, mI x2, mI x3, none] [] w) (h2 : ¬ (s0 = 0) → Wp (Cw d) cd_Ways_onward (0, 0, n1) Q 96 [mR 113, mI x1, mI x2, mI x3, mI x4] [] w) : Wp (Cw d) cd_Ways_onward (0, 0, n1) Q 95 [mR 113, mI x1, mI x2, mI x3, mI x4] [mI s0] w :=
  Wp.s ⟨fun q => Wp.fgd (leA.k (leA.k (leA.k (leA.k (leA.f leA.e))))) (h1 q), fun q => h2 q⟩
theorem Ways_onward_113_b96 {d : Nat} {n1 : Int} {Q : MV → Wd → Prop} {x1 x2 x3 x4 : Int} {w : Wd} (h : Cw d 68 [mR 113, mI x1, mI x3, mI x4] w (fun _ w' => Wp (Cw d) cd_Ways_onward (0, 0, n1) Q 101 [mR 113, mI x1, mI x2, mI x3, none] [] w')) : Wp (Cw d) cd_Ways_onward (0, 0, n1) Q 96 [mR 113, mI x1, mI x2, mI x3, mI x4] [] w :=
  Wp.s (Wp.s (Wp.s (Wp.s (Wp.s (Cw_mono _ _ _ _ _ _ (fun r w' q => Wp.fgd (leA.k (leA.k (leA.k (leA.k (leA.f leA.e))))) q) h)))))
theorem Ways_onward_113_b101 {d : Nat} {n1 : Int} {Q : MV → Wd → Prop} {x1 x2 x3 : Int} {w : Wd} (h : Wp (Cw d) cd_Ways_onward (0, 0, n1) Q 44 [mR 113, mI x1, mI x2, mI (w32 (x3 + 1)), none] [] w) : Wp (Cw d) cd_Ways_onward (0, 0, n1) Q 101 [mR 113, mI x1, mI x2, mI x3, none] [] w :=
  Wp.s (Wp.s h)
theorem Ways_onward_113_b103 {d : Nat} {n1 : Int} {Q : MV → Wd → Prop} {w : Wd} (h : Q none w) : Wp (Cw d) cd_Ways_onward (0, 0, n1) Q 103 [none, none, none, none, none] [] w :=
  Wp.s h
theorem M_away_144_b0 {d : Nat} {n1 : Int} {Q : MV → Wd → Prop} {x1 : Int} {w : Wd} (g1 : (0 : Int) ≤ x1 ∧ x1 < 6) (g2 : (0 : Int) ≤ w 155 x1.toNat ∧ w 155 x1.toNat < 8) (g3 : (0 : Int) ≤ w 155 x1.toNat ∧ w 155 x1.toNat < 8) (h1 : ¬ w 144 26 = 3 → Wp (Cw d) cd_M_away (0, 0, n1) Q 30 [none, none] [mI (w 144 34), mR 144] (ub w 160 (w 155 x1.toNat).toNat (w32 ((w 160 (w 155 x1.toNat).toNat) - 1)))) (h2 : ¬ (¬ w 144 26 = 3) → Wp (Cw d) cd_M_away (0, 0, n1) Q 18 [mR 144, mI x1] [mI (w 144 34), mR 144] (ub w 160 (w 155 x1.toNat).toNat (w32 ((w 160 (w 155 x1.toNat).toNat) - 1)))) : Wp (Cw d) cd_M_away (0, 0, n1) Q 0 [mR 144, mI x1] [] w :=
  Wp.s (Wp.s (Wp.s (Wp.s (Wp.s (Wp.s ⟨g1, Wp.s (Wp.s ⟨g2, Wp.s (Wp.s (Wp.s ⟨g3, Wp.s (Wp.s (Wp.s (Wp.s (Wp.s (Wp.s (Wp.s ⟨fun q => Wp.fgd (leA.f (leA.f leA.e)) (h1 q), fun q => h2 q⟩))))))⟩))⟩)⟩)))))
theorem M_away_144_b18 {d : Nat} {n1 : Int} {Q : MV → Wd → Prop} {x1 s0 : Int} {w : Wd} (g1 : (0 : Int) ≤ x1 ∧ x1 < 6) (g2 : (0 : Int) ≤ w32 (7 + (w 155 x1.toNat)) ∧ w32 (7 + (w 155 x1.toNat)) < 645) (h : Wp (Cw d) cd_M_away (0, 0, n1) Q 31 [none, none] [mI (ishl 1 (w 146 (w32 (7 + (w 155 x1.toNat))).toNat)), mI s0, mR 144] w) : Wp (Cw d) cd_M_away (0, 0, n1) Q 18 [mR 144, mI x1] [mI s0, mR 144] w :=
  Wp.s (Wp.s (Wp.s (Wp.s (Wp.s (Wp.s (Wp.s (Wp.s ⟨g1, Wp.s (Wp.s ⟨g2, Wp.s (Wp.s (Wp.fgd (leA.f (leA.f leA.e)) h))⟩)⟩)))))))
theorem M_away_144_b30 {d : Nat} {n1 : Int} {Q : MV → Wd → Prop} {s0 : Int} {w : Wd} (h : Wp (Cw d) cd_M_away (0, 0, n1) Q 31 [none, none] [mI 0, mI s0, mR 144] w) : Wp (Cw d) cd_M_away (0, 0, n1) Q 30 [none, none] [mI s0, mR 144] w :=
  Wp.s h
theorem M_away_144_b31 {d : Nat} {n1 : Int} {Q : MV → Wd → Prop} {s0 s1 : Int} {w : Wd} (h : Q none (ub w 144 34 (ixor s1 s0))) : Wp (Cw d) cd_M_away (0, 0, n1) Q 31 [none, none] [mI s0, mI s1, mR 144] w :=
  Wp.s (Wp.s (Wp.s h))
theorem M_mayCome_144_b0 {d : Nat} {n1 : Int} {Q : MV → Wd → Prop} {x1 x2 x3 : Int} {w : Wd} (h : Cw d 211 [mI (w 144 27), mI x2] w (fun r w' => Wp (Cw d) cd_M_mayCome (2, 0, n1) Q 4 [mR 144, mI x1, mI x2, mI x3] [r] w')) : Wp (Cw d) cd_M_mayCome (2, 0, n1) Q 0 [mR 144, mI x1, mI x2, mI x3] [] w :=
  Wp.s (Wp.s (Wp.s (Wp.s h)))
theorem M_mayCome_144_b4 {d : Nat} {n1 : Int} {Q : MV → Wd → Prop} {x1 x2 x3 s0 : Int} {w : Wd} (h1 : ¬ s0 = 0 → Wp (Cw d) cd_M_mayCome (2, 0, n1) Q 7 [mR 144, mI x1, mI x2, mI x3] [] w) (h2 : ¬ (¬ s0 = 0) → Wp (Cw d) cd_M_mayCome (2, 0, n1) Q 5 [none, none, none, none] [] w) : Wp (Cw d) cd_M_mayCome (2, 0, n1) Q 4 [mR 144, mI x1, mI x2, mI x3] [mI s0] w :=
  Wp.s ⟨fun q => h1 q, fun q => Wp.fgd (leA.f (leA.f (leA.f (leA.f leA.e)))) (h2 q)⟩
theorem M_mayCome_144_b5 {d : Nat} {n1 : Int} {Q : MV → Wd → Prop} {w : Wd} (h : Q (mI 0) w) : Wp (Cw d) cd_M_mayCome (2, 0, n1) Q 5 [none, none, none, none] [] w :=
  Wp.s (Wp.s ⟨(Or.inl rfl), h⟩)
theorem M_mayCome_144_b7 {d : Nat} {n1 : Int} {Q : MV → Wd → Prop} {x1 x2 x3 : Int} {w : Wd} (h1 : ¬ x3 = 0 → Wp (Cw d) cd_M_mayCome (2, 0, n1) Q 14 [mR 144, mI x1, mI x2, mI x3] [] w) (h2 : ¬ (¬ x3 = 0) → Wp (Cw d) cd_M_mayCome (2, 0, n1) Q 9 [mR 144, mI x1, mI x2, none] [] w) : Wp (Cw d) cd_M_mayCome (2, 0, n1) Q 7 [mR 144, mI x1, mI x2, mI x3] [] w :=
  Wp.s (Wp.s ⟨fun q => h1 q, fun q => Wp.fgd (leA.k (leA.k (leA.k (leA.f leA.e)))) (h2 q)⟩)
theorem M_mayCome_144_b9 {d : Nat} {n1 : Int} {Q : MV → Wd → Prop} {x1 x2 : Int} {w : Wd} (h : Cw d 217 [mR 144, mI x1, mI x2] w (fun r w' => Wp (Cw d) cd_M_mayCome (2, 0, n1) Q 13 [none, none, none, none] [r] w')) : Wp (Cw d) cd_M_mayCome (2, 0, n1) Q 9 [mR 144, mI x1, mI x2, none] [] w :=
  Wp.s (Wp.s (Wp.s (Wp.s (Cw_mono _ _ _ _ _ _ (fun r w' q => Wp.fgd (leA.f (leA.f (leA.f (leA.f leA.e)))) q) h))))
theorem M_mayCome_144_b13 {d : Nat} {n1 : Int} {Q : MV → Wd → Prop} {s0 : Int} {w : Wd} (g1 : s0 = 0 ∨ s0 = 1) (h : Q (mI s0) w) : Wp (Cw d) cd_M_mayCome (2, 0, n1) Q 13 [none, none, none, none] [mI s0] w :=
  Wp.s ⟨g1, h⟩
theorem M_mayCome_144_b14 {d : Nat} {n1 : Int} {Q : MV → Wd → Prop} {x1 x2 x3 : Int} {w : Wd} (g1 : (0 : Int) ≤ w32 (x3 - 1) ∧ w32 (x3 - 1) < 6) (g2 : (0 : Int) ≤ w32 ((w32 (8 * (w 155 (w32 (x3 - 1)).toNat))) + x2) ∧ w32 ((w32 (8 * (w 155 (w32 (x3 - 1)).toNat))) + x2) < 64) (h1 : ¬ w 151 (w32 ((w32 (8 * (w 155 (w32 (x3 - 1)).toNat))) + x2)).toNat = 0 → Wp (Cw d) cd_M_mayCome (2, 0, n1) Q 30 [mR 144, mI x1, mI x2, none] [] w) (h2 : ¬ (¬ w 151 (w32 ((w32 (8 * (w 155 (w32 (x3 - 1)).toNat))) + x2)).toNat = 0) → Wp (Cw d) cd_M_mayCome (2, 0, n1) Q 28 [none, none, none, none] [] w) : Wp (Cw d) cd_M_mayCome (2, 0, n1) Q 14 [mR 144, mI x1, mI x2, mI x3] [] w :=
  Wp.s (Wp.s (Wp.s (Wp.s (Wp.s (Wp.s (Wp.s (Wp.s (Wp.s ⟨g1, Wp.s (Wp.s (Wp.s (Wp.s ⟨g2, Wp.s ⟨fun q => Wp.fgd (leA.k (leA.k (leA.k (leA.f leA.e)))) (h1 q), fun q => Wp.fgd (leA.f (leA.f (leA.f (leA.f leA.e)))) (h2 q)⟩⟩)))⟩))))))))
theorem M_mayCome_144_b28 {d : Nat} {n1 : Int} {Q : MV → Wd → Prop} {w : Wd} (h : Q (mI 0) w) : Wp (Cw d) cd_M_mayCome (2, 0, n1) Q 28 [none, none, none, none] [] w :=
  Wp.s (Wp.s ⟨(Or.inl rfl), h⟩)
theorem M_mayCome_144_b30 {d : Nat} {n1 : Int} {Q : MV → Wd → Prop} {x1 x2 : Int} {w : Wd} (h1 : ¬ w 144 26 = 1 → Wp (Cw d) cd_M_mayCome (2, 0, n1) Q 48 [mR 144, mI x1, mI x2, none] [] w) (h2 : ¬ (¬ w 144 26 = 1) → Wp (Cw d) cd_M_mayCome (2, 0, n1) Q 34 [mR 144, mI x1, mI x2, none] [] w) : Wp (Cw d) cd_M_mayCome (2, 0, n1) Q 30 [mR 144, mI x1, mI x2, none] [] w :=
  Wp.s (Wp.s (Wp.s (Wp.s ⟨fun q => h1 q, fun q => h2 q⟩)))
theorem M_mayCome_144_b34 {d : Nat} {n1 : Int} {Q : MV → Wd → Prop} {x1 x2 : Int} {w : Wd} (g1 : (0 : Int) ≤ x2 ∧ x2 < 8) (h1 : w 160 x2.toNat = 0 → Wp (Cw d) cd_M_mayCome (2, 0, n1) Q 44 [none, none, none, none] [] w) (h2 : ¬ (w 160 x2.toNat = 0) → Wp (Cw d) cd_M_mayCome (2, 0, n1) Q 39 [mR 144, mI x1, mI x2, none] [] w) : Wp (Cw d) cd_M_mayCome (2, 0, n1) Q 34 [mR 144, mI x1, mI x2, none] [] w :=
  Wp.s (Wp.s (Wp.s (Wp.s ⟨g1, Wp.s ⟨fun q => Wp.fgd (leA.f (leA.f (leA.f (leA.f leA.e)))) (h1 q), fun q => h2 q⟩⟩)))
theorem M_mayCome_144_b39 {d : Nat} {n1 : Int} {Q : MV → Wd → Prop} {x1 x2 : Int} {w : Wd} (h : Cw d 217 [mR 144, mI x1, mI x2] w (fun r w' => Wp (Cw d) cd_M_mayCome (2, 0, n1) Q 43 [none, none, none, none] [r] w')) : Wp (Cw d) cd_M_mayCome (2, 0, n1) Q 39 [mR 144, mI x1, mI x2, none] [] w :=
  Wp.s (Wp.s (Wp.s (Wp.s (Cw_mono _ _ _ _ _ _ (fun r w' q => Wp.fgd (leA.f (leA.f (leA.f (leA.f leA.e)))) q) h))))
theorem M_mayCome_144_b43 {d : Nat} {n1 : Int} {Q : MV → Wd → Prop} {s0 : Int} {w : Wd} (h1 : s0 = 0 → Wp (Cw d) cd_M_mayCome (2, 0, n1) Q 46 [none, none, none, none] [] w) (h2 : ¬ (s0 = 0) → Wp (Cw d) cd_M_mayCome (2, 0, n1) Q 44 [none, none, none, none] [] w) : Wp (Cw d) cd_M_mayCome (2, 0, n1) Q 43 [none, none, none, none] [mI s0] w :=
  Wp.s ⟨fun q => h1 q, fun q => h2 q⟩
theorem M_mayCome_144_b44 {d : Nat} {n1 : Int} {Q : MV → Wd → Prop} {w : Wd} (h : Wp (Cw d) cd_M_mayCome (2, 0, n1) Q 47 [none, none, none, none] [mI 1] w) : Wp (Cw d) cd_M_mayCome (2, 0, n1) Q 44 [none, none, none, none] [] w :=
  Wp.s (Wp.s h)
theorem M_mayCome_144_b46 {d : Nat} {n1 : Int} {Q : MV → Wd → Prop} {w : Wd} (h : Wp (Cw d) cd_M_mayCome (2, 0, n1) Q 47 [none, none, none, none] [mI 0] w) : Wp (Cw d) cd_M_mayCome (2, 0, n1) Q 46 [none, none, none, none] [] w :=
  Wp.s h
theorem M_mayCome_144_b47 {d : Nat} {n1 : Int} {Q : MV → Wd → Prop} {s0 : Int} {w : Wd} (g1 : s0 = 0 ∨ s0 = 1) (h : Q (mI s0) w) : Wp (Cw d) cd_M_mayCome (2, 0, n1) Q 47 [none, none, none, none] [mI s0] w :=
  Wp.s ⟨g1, h⟩
theorem M_mayCome_144_b48 {d : Nat} {n1 : Int} {Q : MV → Wd → Prop} {x1 x2 : Int} {w : Wd} (h1 : ¬ w 144 26 = 2 → Wp (Cw d) cd_M_mayCome (2, 0, n1) Q 66 [mR 144, none, mI x2, none] [] w) (h2 : ¬ (¬ w 144 26 = 2) → Wp (Cw d) cd_M_mayCome (2, 0, n1) Q 52 [mR 144, mI x1, mI x2, none] [] w) : Wp (Cw d) cd_M_mayCome (2, 0, n1) Q 48 [mR 144, mI x1, mI x2, none] [] w :=
  Wp.s (Wp.s (Wp.s (Wp.s ⟨fun q => Wp.fgd (leA.k (leA.f (leA.k (leA.f leA.e)))) (h1 q), fun q => h2 q⟩)))
theorem M_mayCome_144_b52 {d : Nat} {n1 : Int} {Q : MV → Wd → Prop} {x1 x2 : Int} {w : Wd} (g1 : (0 : Int) ≤ x2 ∧ x2 < 8) (h1 : ¬ w 160 x2.toNat = 0 → Wp (Cw d) cd_M_mayCome (2, 0, n1) Q 64 [none, none, none, none] [] w) (h2 : ¬ (¬ w 160 x2.toNat = 0) → Wp (Cw d) cd_M_mayCome (2, 0, n1) Q 57 [mR 144, mI x1, mI x2, none] [] w) : Wp (Cw d) cd_M_mayCome (2, 0, n1) Q 52 [mR 144, mI x1, mI x2, none] [] w :=
  Wp.s (Wp.s (Wp.s (Wp.s ⟨g1, Wp.s ⟨fun q => Wp.fgd (leA.f (leA.f (leA.f (leA.f leA.e)))) (h1 q), fun q => h2 q⟩⟩)))
theorem M_mayCome_144_b57 {d : Nat} {n1 : Int} {Q : MV → Wd → Prop} {x1 x2 : Int} {w : Wd} (h : Cw d 217 [mR 144, mI x1, mI x2] w (fun r w' => Wp (Cw d) cd_M_mayCome (2, 0, n1) Q 61 [none, none, none, none] [r] w')) : Wp (Cw d) cd_M_mayCome (2, 0, n1) Q 57 [mR 144, mI x1, mI x2, none] [] w :=
  Wp.s (Wp.s (Wp.s (Wp.s (Cw_mono _ _ _ _ _ _ (fun r w' q => Wp.fgd (leA.f (leA.f (leA.f (leA.f leA.e)))) q) h))))
theorem M_mayCome_144_b61 {d : Nat} {n1 : Int} {Q : MV → Wd → Prop} {s0 : Int} {w : Wd} (h1 : ¬ s0 = 0 → Wp (Cw d) cd_M_mayCome (2, 0, n1) Q 64 [none, none, none, none] [] w) (h2 : ¬ (¬ s0 = 0) → Wp (Cw d) cd_M_mayCome (2, 0, n1) Q 62 [none, none, none, none] [] w) : Wp (Cw d) cd_M_mayCome (2, 0, n1) Q 61 [none, none, none, none] [mI s0] w :=
  Wp.s ⟨fun q => h1 q, fun q => h2 q⟩
theorem M_mayCome_144_b62 {d : Nat} {n1 : Int} {Q : MV → Wd → Prop} {w : Wd} (h : Wp (Cw d) cd_M_mayCome (2, 0, n1) Q 65 [none, none, none, none] [mI 1] w) : Wp (Cw d) cd_M_mayCome (2, 0, n1) Q 62 [none, none, none, none] [] w :=
  Wp.s (Wp.s h)
theorem M_mayCome_144_b64 {d : Nat} {n1 : Int} {Q : MV → Wd → Prop} {w : Wd} (h : Wp (Cw d) cd_M_mayCome (2, 0, n1) Q 65 [none, none, none, none] [mI 0] w) : Wp (Cw d) cd_M_mayCome (2, 0, n1) Q 64 [none, none, none, none] [] w :=
  Wp.s h
theorem M_mayCome_144_b65 {d : Nat} {n1 : Int} {Q : MV → Wd → Prop} {s0 : Int} {w : Wd} (g1 : s0 = 0 ∨ s0 = 1) (h : Q (mI s0) w) : Wp (Cw d) cd_M_mayCome (2, 0, n1) Q 65 [none, none, none, none] [mI s0] w :=
  Wp.s ⟨g1, h⟩
theorem M_mayCome_144_b66 {d : Nat} {n1 : Int} {Q : MV → Wd → Prop} {x2 : Int} {w : Wd} (h1 : ¬ w 144 26 = 3 → Wp (Cw d) cd_M_mayCome (2, 0, n1) Q 80 [none, none, none, none] [] w) (h2 : ¬ (¬ w 144 26 = 3) → Wp (Cw d) cd_M_mayCome (2, 0, n1) Q 70 [mR 144, none, mI x2, none] [] w) : Wp (Cw d) cd_M_mayCome (2, 0, n1) Q 66 [mR 144, none, mI x2, none] [] w :=
  Wp.s (Wp.s (Wp.s (Wp.s ⟨fun q => Wp.fgd (leA.f (leA.f (leA.f (leA.f leA.e)))) (h1 q), fun q => h2 q⟩)))
theorem M_mayCome_144_b70 {d : Nat} {n1 : Int} {Q : MV → Wd → Prop} {x2 : Int} {w : Wd} (g1 : (0 : Int) ≤ w32 (7 + x2) ∧ w32 (7 + x2) < 645) (h : Cw d 211 [mI (w 144 34), mI (w 146 (w32 (7 + x2)).toNat)] w (fun r w' => Wp (Cw d) cd_M_mayCome (2, 0, n1) Q 79 [none, none, none, none] [r] w')) : Wp (Cw d) cd_M_mayCome (2, 0, n1) Q 70 [mR 144, none, mI x2, none] [] w :=
  Wp.s (Wp.s (Wp.s (Wp.s (Wp.s (Wp.s (Wp.s (Wp.s ⟨g1, Wp.s (Cw_mono _ _ _ _ _ _ (fun r w' q => Wp.fgd (leA.f (leA.f (leA.f (leA.f leA.e)))) q) h)⟩)))))))
theorem M_mayCome_144_b79 {d : Nat} {n1 : Int} {Q : MV → Wd → Prop} {s0 : Int} {w : Wd} (h1 : ¬ s0 = 0 → Wp (Cw d) cd_M_mayCome (2, 0, n1) Q 82 [none, none, none, none] [] w) (h2 : ¬ (¬ s0 = 0) → Wp (Cw d) cd_M_mayCome (2, 0, n1) Q 80 [none, none, none, none] [] w) : Wp (Cw d) cd_M_mayCome (2, 0, n1) Q 79 [none, none, none, none] [mI s0] w :=
  Wp.s ⟨fun q => h1 q, fun q => h2 q⟩
theorem M_mayCome_144_b80 {d : Nat} {n1 : Int} {Q : MV → Wd → Prop} {w : Wd} (h : Wp (Cw d) cd_M_mayCome (2, 0, n1) Q 83 [none, none, none, none] [mI 1] w) : Wp (Cw d) cd_M_mayCome (2, 0, n1) Q 80 [none, none, none, none] [] w :=
  Wp.s (Wp.s h)
theorem M_mayCome_144_b82 {d : Nat} {n1 : Int} {Q : MV → Wd → Prop} {w : Wd} (h : Wp (Cw d) cd_M_mayCome (2, 0, n1) Q 83 [none, none, none, none] [mI 0] w) : Wp (Cw d) cd_M_mayCome (2, 0, n1) Q 82 [none, none, none, none] [] w :=
  Wp.s h
theorem M_mayCome_144_b83 {d : Nat} {n1 : Int} {Q : MV → Wd → Prop} {s0 : Int} {w : Wd} (g1 : s0 = 0 ∨ s0 = 1) (h : Q (mI s0) w) : Wp (Cw d) cd_M_mayCome (2, 0, n1) Q 83 [none, none, none, none] [mI s0] w :=
  Wp.s ⟨g1, h⟩
theorem M_put_144_b0 {d : Nat} {n1 : Int} {Q : MV → Wd → Prop} {x1 x2 x3 : Int} {w : Wd} (g1 : (0 : Int) ≤ x2 ∧ x2 < 6) (g2 : (0 : Int) ≤ x1 ∧ x1 < 8) (g3 : (0 : Int) ≤ x1 ∧ x1 < 8) (h1 : ¬ w 144 26 = 3 → Wp (Cw d) cd_M_put (0, 0, n1) Q 29 [mR 144, mI x1, mI x2, mI x3, none] [mI (w 144 34), mR 144] (ub (ub w 155 x2.toNat x1) 160 x1.toNat (w32 ((w 160 x1.toNat) + 1)))) (h2 : ¬ (¬ w 144 26 = 3) → Wp (Cw d) cd_M_put (0, 0, n1) Q 20 [mR 144, mI x1, mI x2, mI x3, none] [mI (w 144 34), mR 144] (ub (ub w 155 x2.toNat x1) 160 x1.toNat (w32 ((w 160 x1.toNat) + 1)))) : Wp (Cw d) cd_M_put (0, 0, n1) Q 0 [mR 144, mI x1, mI x2, mI x3, none] [] w :=
  Wp.s (Wp.s (Wp.s (Wp.s (Wp.s ⟨g1, Wp.s (Wp.s (Wp.s (Wp.s (Wp.s ⟨g2, Wp.s (Wp.s (Wp.s ⟨g3, Wp.s (Wp.s (Wp.s (Wp.s (Wp.s (Wp.s (Wp.s ⟨fun q => h1 q, fun q => h2 q⟩))))))⟩))⟩))))⟩))))
theorem M_put_144_b20 {d : Nat} {n1 : Int} {Q : MV → Wd → Prop} {x1 x2 x3 s0 : Int} {w : Wd} (g1 : (0 : Int) ≤ w32 (7 + x1) ∧ w32 (7 + x1) < 645) (h : Wp (Cw d) cd_M_put (0, 0, n1) Q 30 [mR 144, mI x1, mI x2, mI x3, none] [mI (ishl 1 (w 146 (w32 (7 + x1)).toNat)), mI s0, mR 144] w) : Wp (Cw d) cd_M_put (0, 0, n1) Q 20 [mR 144, mI x1, mI x2, mI x3, none] [mI s0, mR 144] w :=
  Wp.s (Wp.s (Wp.s (Wp.s (Wp.s (Wp.s (Wp.s ⟨g1, Wp.s (Wp.s h)⟩))))))
theorem M_put_144_b29 {d : Nat} {n1 : Int} {Q : MV → Wd → Prop} {x1 x2 x3 s0 : Int} {w : Wd} (h : Wp (Cw d) cd_M_put (0, 0, n1) Q 30 [mR 144, mI x1, mI x2, mI x3, none] [mI 0, mI s0, mR 144] w) : Wp (Cw d) cd_M_put (0, 0, n1) Q 29 [mR 144, mI x1, mI x2, mI x3, none] [mI s0, mR 144] w :=
  Wp.s h
theorem M_put_144_b30 {d : Nat} {n1 : Int} {Q : MV → Wd → Prop} {x1 x2 x3 s0 s1 : Int} {w : Wd} (h1 : ¬ x2 = 0 → Wp (Cw d) cd_M_put (0, 0, n1) Q 36 [mR 144, mI x1, mI x2, mI x3, none] [] (ub w 144 34 (ixor s1 s0))) (h2 : ¬ (¬ x2 = 0) → Wp (Cw d) cd_M_put (0, 0, n1) Q 34 [mR 144, mI x1, mI x2, mI x3, none] [] (ub w 144 34 (ixor s1 s0))) : Wp (Cw d) cd_M_put (0, 0, n1) Q 30 [mR 144, mI x1, mI x2, mI x3, none] [mI s0, mI s1, mR 144] w :=
  Wp.s (Wp.s (Wp.s (Wp.s ⟨fun q => h1 q, fun q => h2 q⟩)))
theorem M_put_144_b34 {d : Nat} {n1 : Int} {Q : MV → Wd → Prop} {x1 x2 x3 : Int} {w : Wd} (h : Wp (Cw d) cd_M_put (0, 0, n1) Q 46 [mR 144, mI x1, mI x2, mI x3, none] [mI 0] w) : Wp (Cw d) cd_M_put (0, 0, n1) Q 34 [mR 144, mI x1, mI x2, mI x3, none] [] w :=
  Wp.s (Wp.s h)
theorem M_put_144_b36 {d : Nat} {n1 : Int} {Q : MV → Wd → Prop} {x1 x2 x3 : Int} {w : Wd} (g1 : (0 : Int) ≤ w32 (x2 - 1) ∧ w32 (x2 - 1) < 6) (h : Wp (Cw d) cd_M_put (0, 0, n1) Q 46 [mR 144, mI x1, mI x2, mI x3, none] [mI (w32 ((w32 (8 * (w 155 (w32 (x2 - 1)).toNat))) + x1))] w) : Wp (Cw d) cd_M_put (0, 0, n1) Q 36 [mR 144, mI x1, mI x2, mI x3, none] [] w :=
  Wp.s (Wp.s (Wp.s (Wp.s (Wp.s (Wp.s (Wp.s ⟨g1, Wp.s (Wp.s (Wp.s h))⟩))))))
theorem M_put_144_b46 {d : Nat} {n1 : Int} {Q : MV → Wd → Prop} {x1 x2 x3 s0 : Int} {w : Wd} (h1 : ¬ x2 = 0 → Wp (Cw d) cd_M_put (0, 0, n1) Q 54 [mR 144, mI x1, mI x2, mI x3, mI s0] [mI x2, mR 157] w) (h2 : ¬ (¬ x2 = 0) → Wp (Cw d) cd_M_put (0, 0, n1) Q 52 [mR 144, mI x1, mI x2, mI x3, mI s0] [mI x2, mR 157] w) : Wp (Cw d) cd_M_put (0, 0, n1) Q 46 [mR 144, mI x1, mI x2, mI x3, none] [mI s0] w :=
  Wp.s (Wp.s (Wp.s (Wp.s (Wp.s (Wp.s ⟨fun q => h1 q, fun q => h2 q⟩)))))
theorem M_put_144_b52 {d : Nat} {n1 : Int} {Q : MV → Wd → Prop} {x1 x2 x3 x4 s0 : Int} {w : Wd} (h : Wp (Cw d) cd_M_put (0, 0, n1) Q 65 [mR 144, mI x1, mI x2, mI x3, mI x4] [mI 0, mI s0, mR 157] w) : Wp (Cw d) cd_M_put (0, 0, n1) Q 52 [mR 144, mI x1, mI x2, mI x3, mI x4] [mI s0, mR 157] w :=
  Wp.s (Wp.s h)
theorem M_put_144_b54 {d : Nat} {n1 : Int} {Q : MV → Wd → Prop} {x1 x2 x3 x4 s0 : Int} {w : Wd} (g1 : (0 : Int) ≤ w32 (x2 - 1) ∧ w32 (x2 - 1) < 6) (g2 : (0 : Int) ≤ x4 ∧ x4 < 64) (h : Wp (Cw d) cd_M_put (0, 0, n1) Q 65 [mR 144, mI x1, mI x2, mI x3, mI x4] [mI (w32 ((w 157 (w32 (x2 - 1)).toNat) + (w 153 x4.toNat))), mI s0, mR 157] w) : Wp (Cw d) cd_M_put (0, 0, n1) Q 54 [mR 144, mI x1, mI x2, mI x3, mI x4] [mI s0, mR 157] w :=
  Wp.s (Wp.s (Wp.s (Wp.s (Wp.s (Wp.s ⟨g1, Wp.s (Wp.s (Wp.s (Wp.s ⟨g2, Wp.s h⟩)))⟩)))))
theorem M_put_144_b65 {d : Nat} {n1 : Int} {Q : MV → Wd → Prop} {x1 x2 x3 x4 s0 s1 : Int} {w : Wd} (g1 : (0 : Int) ≤ s1 ∧ s1 < 6) (h1 : ¬ x2 = 0 → Wp (Cw d) cd_M_put (0, 0, n1) Q 73 [mR 144, mI x1, mI x2, mI x3, mI x4] [mI x2, mR 158] (ub w 157 s1.toNat s0)) (h2 : ¬ (¬ x2 = 0) → Wp (Cw d) cd_M_put (0, 0, n1) Q 71 [mR 144, mI x1, mI x2, mI x3, none] [mI x2, mR 158] (ub w 157 s1.toNat s0)) : Wp (Cw d) cd_M_put (0, 0, n1) Q 65 [mR 144, mI x1, mI x2, mI x3, mI x4] [mI s0, mI s1, mR 157] w :=
  Wp.s ⟨g1, Wp.s (Wp.s (Wp.s (Wp.s (Wp.s ⟨fun q => h1 q, fun q => Wp.fgd (leA.k (leA.k (leA.k (leA.k (leA.f leA.e))))) (h2 q)⟩))))⟩
theorem M_put_144_b71 {d : Nat} {n1 : Int} {Q : MV → Wd → Prop} {x1 x2 x3 s0 : Int} {w : Wd} (h : Wp (Cw d) cd_M_put (0, 0, n1) Q 84 [mR 144, mI x1, mI x2, mI x3, none] [mI 0, mI s0, mR 158] w) : Wp (Cw d) cd_M_put (0, 0, n1) Q 71 [mR 144, mI x1, mI x2, mI x3, none] [mI s0, mR 158] w :=
  Wp.s (Wp.s h)
theorem M_put_144_b73 {d : Nat} {n1 : Int} {Q : MV → Wd → Prop} {x1 x2 x3 x4 s0 : Int} {w : Wd} (g1 : (0 : Int) ≤ w32 (x2 - 1) ∧ w32 (x2 - 1) < 6) (g2 : (0 : Int) ≤ x4 ∧ x4 < 64) (h : Wp (Cw d) cd_M_put (0, 0, n1) Q 84 [mR 144, mI x1, mI x2, mI x3, none] [mI (w32 ((w 158 (w32 (x2 - 1)).toNat) + (w 152 x4.toNat))), mI s0, mR 158] w) : Wp (Cw d) cd_M_put (0, 0, n1) Q 73 [mR 144, mI x1, mI x2, mI x3, mI x4] [mI s0, mR 158] w :=
  Wp.s (Wp.s (Wp.s (Wp.s (Wp.s (Wp.s ⟨g1, Wp.s (Wp.s (Wp.s (Wp.s ⟨g2, Wp.s (Wp.fgd (leA.k (leA.k (leA.k (leA.k (leA.f leA.e))))) h)⟩)))⟩)))))
theorem M_put_144_b84 {d : Nat} {n1 : Int} {Q : MV → Wd → Prop} {x1 x2 x3 s0 s1 : Int} {w : Wd} (g1 : (0 : Int) ≤ s1 ∧ s1 < 6) (h1 : ¬ x2 = 0 → Wp (Cw d) cd_M_put (0, 0, n1) Q 92 [mR 144, mI x1, mI x2, mI x3, none] [mI x2, mR 159] (ub w 158 s1.toNat s0)) (h2 : ¬ (¬ x2 = 0) → Wp (Cw d) cd_M_put (0, 0, n1) Q 90 [none, none, none, none, none] [mI x2, mR 159] (ub w 158 s1.toNat s0)) : Wp (Cw d) cd_M_put (0, 0, n1) Q 84 [mR 144, mI x1, mI x2, mI x3, none] [mI s0, mI s1, mR 158] w :=
  Wp.s ⟨g1, Wp.s (Wp.s (Wp.s (Wp.s (Wp.s ⟨fun q => h1 q, fun q => Wp.fgd (leA.f (leA.f (leA.f (leA.f (leA.f leA.e))))) (h2 q)⟩))))⟩
theorem M_put_144_b90 {d : Nat} {n1 : Int} {Q : MV → Wd → Prop} {s0 : Int} {w : Wd} (h : Wp (Cw d) cd_M_put (0, 0, n1) Q 110 [none, none, none, none, none] [mI 0, mI s0, mR 159] w) : Wp (Cw d) cd_M_put (0, 0, n1) Q 90 [none, none, none, none, none] [mI s0, mR 159] w :=
  Wp.s (Wp.s h)
theorem M_put_144_b92 {d : Nat} {n1 : Int} {Q : MV → Wd → Prop} {x1 x2 x3 s0 : Int} {w : Wd} (g1 : (0 : Int) ≤ w32 (x2 - 1) ∧ w32 (x2 - 1) < 6) (h1 : w32 (x3 - 1) ≤ x2 → Wp (Cw d) cd_M_put (0, 0, n1) Q 108 [none, none, none, none, none] [mI (w 159 (w32 (x2 - 1)).toNat), mI s0, mR 159] w) (h2 : ¬ (w32 (x3 - 1) ≤ x2) → Wp (Cw d) cd_M_put (0, 0, n1) Q 103 [mR 144, mI x1, none, none, none] [mI (w 159 (w32 (x2 - 1)).toNat), mI s0, mR 159] w) : Wp (Cw d) cd_M_put (0, 0, n1) Q 92 [mR 144, mI x1, mI x2, mI x3, none] [mI s0, mR 159] w :=
  Wp.s (Wp.s (Wp.s (Wp.s (Wp.s (Wp.s ⟨g1, Wp.s (Wp.s (Wp.s (Wp.s (Wp.s ⟨fun q => Wp.fgd (leA.f (leA.f (leA.f (leA.f (leA.f leA.e))))) (h1 q), fun q => Wp.fgd (leA.k (leA.k (leA.f (leA.f (leA.f leA.e))))) (h2 q)⟩))))⟩)))))
theorem M_put_144_b103 {d : Nat} {n1 : Int} {Q : MV → Wd → Prop} {x1 s0 s1 : Int} {w : Wd} (g1 : (0 : Int) ≤ x1 ∧ x1 < 8) (h : Wp (Cw d) cd_M_put (0, 0, n1) Q 109 [none, none, none, none, none] [mI (w 154 x1.toNat), mI s0, mI s1, mR 159] w) : Wp (Cw d) cd_M_put (0, 0, n1) Q 103 [mR 144, mI x1, none, none, none] [mI s0, mI s1, mR 159] w :=
  Wp.s (Wp.s (Wp.s (Wp.s ⟨g1, Wp.s (Wp.fgd (leA.f (leA.f (leA.f (leA.f (leA.f leA.e))))) h)⟩)))
theorem M_put_144_b108 {d : Nat} {n1 : Int} {Q : MV → Wd → Prop} {s0 s1 : Int} {w : Wd} (h : Wp (Cw d) cd_M_put (0, 0, n1) Q 109 [none, none, none, none, none] [mI 0, mI s0, mI s1, mR 159] w) : Wp (Cw d) cd_M_put (0, 0, n1) Q 108 [none, none, none, none, none] [mI s0, mI s1, mR 159] w :=
  Wp.s h
theorem M_put_144_b109 {d : Nat} {n1 : Int} {Q : MV → Wd → Prop} {s0 s1 s2 : Int} {w : Wd} (h : Wp (Cw d) cd_M_put (0, 0, n1) Q 110 [none, none, none, none, none] [mI (w32 (s1 + s0)), mI s2, mR 159] w) : Wp (Cw d) cd_M_put (0, 0, n1) Q 109 [none, none, none, none, none] [mI s0, mI s1, mI s2, mR 159] w :=
  Wp.s h
theorem M_put_144_b110 {d : Nat} {n1 : Int} {Q : MV → Wd → Prop} {s0 s1 : Int} {w : Wd} (g1 : (0 : Int) ≤ s1 ∧ s1 < 6) (h : Q none (ub w 159 s1.toNat s0)) : Wp (Cw d) cd_M_put (0, 0, n1) Q 110 [none, none, none, none, none] [mI s0, mI s1, mR 159] w :=
  Wp.s ⟨g1, Wp.s h⟩
theorem Ways_walkAll_113_b0 {d : Nat} {n1 : Int} {Q : MV → Wd → Prop} {w : Wd} (h : Wp (Cw d) cd_Ways_walkAll (0, 0, n1) Q 2 [mR 113, mI 0] [] w) : Wp (Cw d) cd_Ways_walkAll (0, 0, n1) Q 0 [mR 113, none] [] w :=
  Wp.s (Wp.s h)
theorem Ways_walkAll_113_b2 {d : Nat} {n1 : Int} {Q : MV → Wd → Prop} {x1 : Int} {w : Wd} (h1 : w 4 8 ≤ x1 → Wp (Cw d) cd_Ways_walkAll (0, 0, n1) Q 19 [none, none] [] w) (h2 : ¬ (w 4 8 ≤ x1) → Wp (Cw d) cd_Ways_walkAll (0, 0, n1) Q 7 [mR 113, mI x1] [] w) : Wp (Cw d) cd_Ways_walkAll (0, 0, n1) Q 2 [mR 113, mI x1] [] w :=
  Wp.s (Wp.s (Wp.s (Wp.s (Wp.s ⟨fun q => Wp.fgd (leA.f (leA.f leA.e)) (h1 q), fun q => h2 q⟩))))
theorem Ways_walkAll_113_b7 {d : Nat} {n1 : Int} {Q : MV → Wd → Prop} {x1 : Int} {w : Wd} (g1 : (0 : Int) ≤ x1 ∧ x1 < 16) (h1 : ¬ w 12 x1.toNat = x1 → Wp (Cw d) cd_Ways_walkAll (0, 0, n1) Q 17 [mR 113, mI x1] [] w) (h2 : ¬ (¬ w 12 x1.toNat = x1) → Wp (Cw d) cd_Ways_walkAll (0, 0, n1) Q 14 [mR 113, mI x1] [] w) : Wp (Cw d) cd_Ways_walkAll (0, 0, n1) Q 7 [mR 113, mI x1] [] w :=
  Wp.s (Wp.s (Wp.s (Wp.s (Wp.s ⟨g1, Wp.s (Wp.s ⟨fun q => h1 q, fun q => h2 q⟩)⟩))))
theorem Ways_walkAll_113_b14 {d : Nat} {n1 : Int} {Q : MV → Wd → Prop} {x1 : Int} {w : Wd} (h : Cw d 59 [mR 113, mI x1] w (fun _ w' => Wp (Cw d) cd_Ways_walkAll (0, 0, n1) Q 17 [mR 113, mI x1] [] w')) : Wp (Cw d) cd_Ways_walkAll (0, 0, n1) Q 14 [mR 113, mI x1] [] w :=
  Wp.s (Wp.s (Wp.s h))
theorem Ways_walkAll_113_b17 {d : Nat} {n1 : Int} {Q : MV → Wd → Prop} {x1 : Int} {w : Wd} (h : Wp (Cw d) cd_Ways_walkAll (0, 0, n1) Q 2 [mR 113, mI (w32 (x1 + 1))] [] w) : Wp (Cw d) cd_Ways_walkAll (0, 0, n1) Q 17 [mR 113, mI x1] [] w :=
  Wp.s (Wp.s h)
theorem Ways_walkAll_113_b19 {d : Nat} {n1 : Int} {Q : MV → Wd → Prop} {w : Wd} (h : Q none w) : Wp (Cw d) cd_Ways_walkAll (0, 0, n1) Q 19 [none, none] [] w :=
  Wp.s h
theorem Meeting_choose_112_b0 {d : Nat} {n1 : Int} {Q : MV → Wd → Prop} {x1 : Int} {w : Wd} (h : Cw d 276 [mR 128, mI 0] w (fun _ w' => Wp (Cw d) cd_Meeting_choose (0, 0, n1) Q 4 [mR 112, mI x1, none, none, none, none] [] w')) : Wp (Cw d) cd_Meeting_choose (0, 0, n1) Q 0 [mR 112, mI x1, none, none, none, none] [] w :=
  Wp.s (Wp.s (Wp.s (Wp.s h)))
theorem Meeting_choose_112_b4 {d : Nat} {n1 : Int} {Q : MV → Wd → Prop} {x1 : Int} {w : Wd} (h : Wp (Cw d) cd_Meeting_choose (0, 0, n1) Q 6 [mR 112, mI x1, mI 0, none, none, none] [] w) : Wp (Cw d) cd_Meeting_choose (0, 0, n1) Q 4 [mR 112, mI x1, none, none, none, none] [] w :=
  Wp.s (Wp.s h)
theorem Meeting_choose_112_b6 {d : Nat} {n1 : Int} {Q : MV → Wd → Prop} {x1 x2 : Int} {w : Wd} (h1 : w 4 8 ≤ x2 → Wp (Cw d) cd_Meeting_choose (0, 0, n1) Q 60 [none, none, none, none, none, none] [] w) (h2 : ¬ (w 4 8 ≤ x2) → Wp (Cw d) cd_Meeting_choose (0, 0, n1) Q 11 [mR 112, mI x1, mI x2, none, none, none] [] w) : Wp (Cw d) cd_Meeting_choose (0, 0, n1) Q 6 [mR 112, mI x1, mI x2, none, none, none] [] w :=
  Wp.s (Wp.s (Wp.s (Wp.s (Wp.s ⟨fun q => Wp.fgd (leA.f (leA.f (leA.f (leA.f (leA.f (leA.f leA.e)))))) (h1 q), fun q => h2 q⟩))))
theorem Meeting_choose_112_b11 {d : Nat} {n1 : Int} {Q : MV → Wd → Prop} {x1 x2 : Int} {w : Wd} (h : Wp (Cw d) cd_Meeting_choose (0, 0, n1) Q 13 [mR 112, mI x1, mI x2, mI 0, none, none] [] w) : Wp (Cw d) cd_Meeting_choose (0, 0, n1) Q 11 [mR 112, mI x1, mI x2, none, none, none] [] w :=
  Wp.s (Wp.s h)
theorem Meeting_choose_112_b13 {d : Nat} {n1 : Int} {Q : MV → Wd → Prop} {x1 x2 x3 : Int} {w : Wd} (h1 : w 4 11 ≤ x3 → Wp (Cw d) cd_Meeting_choose (0, 0, n1) Q 58 [mR 112, mI x1, mI x2, none, none, none] [] w) (h2 : ¬ (w 4 11 ≤ x3) → Wp (Cw d) cd_Meeting_choose (0, 0, n1) Q 18 [mR 112, mI x1, mI x2, mI x3, none, none] [] w) : Wp (Cw d) cd_Meeting_choose (0, 0, n1) Q 13 [mR 112, mI x1, mI x2, mI x3, none, none] [] w :=
  Wp.s (Wp.s (Wp.s (Wp.s (Wp.s ⟨fun q => Wp.fgd (leA.k (leA.k (leA.k (leA.f (leA.f (leA.f leA.e)))))) (h1 q), fun q => h2 q⟩))))
theorem Meeting_choose_112_b18 {d : Nat} {n1 : Int} {Q : MV → Wd → Prop} {x1 x2 x3 : Int} {w : Wd} (g1 : (0 : Int) ≤ x2 ∧ x2 < 16) (h : Cw d 70 [mR 112, mI (w32 ((w32 ((w 12 x2.toNat) * 8)) + x3)), mI x1] w (fun r w' => Wp (Cw d) cd_Meeting_choose (0, 0, n1) Q 30 [mR 112, mI x1, mI x2, mI x3, none, none] [r] w')) : Wp (Cw d) cd_Meeting_choose (0, 0, n1) Q 18 [mR 112, mI x1, mI x2, mI x3, none, none] [] w :=
  Wp.s (Wp.s (Wp.s (Wp.s (Wp.s (Wp.s ⟨g1, Wp.s (Wp.s (Wp.s (Wp.s (Wp.s (Wp.s h)))))⟩)))))
theorem Meeting_choose_112_b30 {d : Nat} {n1 : Int} {Q : MV → Wd → Prop} {x1 x2 x3 s0 : Int} {w : Wd} (g1 : (0 : Int) ≤ w32 ((w32 (x2 * 8)) + x3) ∧ w32 ((w32 (x2 * 8)) + x3) < 128) (g2 : (0 : Int) ≤ x3 ∧ x3 < 8) (h1 : ¬ cmp3 s0 9223372036854775807 = 0 → Wp (Cw d) cd_Meeting_choose (0, 0, n1) Q 51 [mR 112, mI x1, mI x2, mI x3, none, none] [mI (w 128 x3.toNat), mI x3, mR 128] (ub w 127 (w32 ((w32 (x2 * 8)) + x3)).toNat s0)) (h2 : ¬ (¬ cmp3 s0 9223372036854775807 = 0) → Wp (Cw d) cd_Meeting_choose (0, 0, n1) Q 49 [mR 112, mI x1, mI x2, mI x3, none, none] [mI (w 128 x3.toNat), mI x3, mR 128] (ub w 127 (w32 ((w32 (x2 * 8)) + x3)).toNat s0)) : Wp (Cw d) cd_Meeting_choose (0, 0, n1) Q 30 [mR 112, mI x1, mI x2, mI x3, none, none] [mL s0] w :=
  Wp.s (Wp.s (Wp.s (Wp.s (Wp.s (Wp.s (Wp.s (Wp.s (Wp.s (Wp.s ⟨g1, Wp.s (Wp.s (Wp.s (Wp.s (Wp.s ⟨g2, Wp.s (Wp.s (Wp.s (Wp.s ⟨fun q => Wp.fgd (leA.k (leA.k (leA.k (leA.k (leA.f (leA.f leA.e)))))) (h1 q), fun q => Wp.fgd (leA.k (leA.k (leA.k (leA.k (leA.f (leA.f leA.e)))))) (h2 q)⟩)))⟩))))⟩)))))))))
theorem Meeting_choose_112_b49 {d : Nat} {n1 : Int} {Q : MV → Wd → Prop} {x1 x2 x3 s0 s1 : Int} {w : Wd} (h : Wp (Cw d) cd_Meeting_choose (0, 0, n1) Q 54 [mR 112, mI x1, mI x2, mI x3, none, none] [mI 0, mI s0, mI s1, mR 128] w) : Wp (Cw d) cd_Meeting_choose (0, 0, n1) Q 49 [mR 112, mI x1, mI x2, mI x3, none, none] [mI s0, mI s1, mR 128] w :=
  Wp.s (Wp.s h)
theorem Meeting_choose_112_b51 {d : Nat} {n1 : Int} {Q : MV → Wd → Prop} {x1 x2 x3 s0 s1 : Int} {w : Wd} (h : Wp (Cw d) cd_Meeting_choose (0, 0, n1) Q 54 [mR 112, mI x1, mI x2, mI x3, none, none] [mI (ishl 1 x2), mI s0, mI s1, mR 128] w) : Wp (Cw d) cd_Meeting_choose (0, 0, n1) Q 51 [mR 112, mI x1, mI x2, mI x3, none, none] [mI s0, mI s1, mR 128] w :=
  Wp.s (Wp.s (Wp.s h))
theorem Meeting_choose_112_b54 {d : Nat} {n1 : Int} {Q : MV → Wd → Prop} {x1 x2 x3 s0 s1 s2 : Int} {w : Wd} (g1 : (0 : Int) ≤ s2 ∧ s2 < 8) (h : Wp (Cw d) cd_Meeting_choose (0, 0, n1) Q 13 [mR 112, mI x1, mI x2, mI (w32 (x3 + 1)), none, none] [] (ub w 128 s2.toNat (ior s1 s0))) : Wp (Cw d) cd_Meeting_choose (0, 0, n1) Q 54 [mR 112, mI x1, mI x2, mI x3, none, none] [mI s0, mI s1, mI s2, mR 128] w :=
  Wp.s (Wp.s ⟨g1, Wp.s (Wp.s h)⟩)
theorem Meeting_choose_112_b58 {d : Nat} {n1 : Int} {Q : MV → Wd → Prop} {x1 x2 : Int} {w : Wd} (h : Wp (Cw d) cd_Meeting_choose (0, 0, n1) Q 6 [mR 112, mI x1, mI (w32 (x2 + 1)), none, none, none] [] w) : Wp (Cw d) cd_Meeting_choose (0, 0, n1) Q 58 [mR 112, mI x1, mI x2, none, none, none] [] w :=
  Wp.s (Wp.s h)
theorem Meeting_choose_112_b60 {d : Nat} {n1 : Int} {Q : MV → Wd → Prop} {w : Wd} (h : Q none w) : Wp (Cw d) cd_Meeting_choose (0, 0, n1) Q 60 [none, none, none, none, none, none] [] w :=
  Wp.s h
theorem Meeting_solve_112_b0 {d : Nat} {n1 : Int} {Q : MV → Wd → Prop} {w : Wd} (h : Wp (Cw d) cd_Meeting_solve (0, 0, n1) Q 5 [mR 112, mI 0] [] (ub w 112 7 0)) : Wp (Cw d) cd_Meeting_solve (0, 0, n1) Q 0 [mR 112, none] [] w :=
  Wp.s (Wp.s (Wp.s (Wp.s (Wp.s h))))
theorem Meeting_solve_112_b5 {d : Nat} {n1 : Int} {Q : MV → Wd → Prop} {x1 : Int} {w : Wd} (h1 : w 4 5 ≤ x1 → Wp (Cw d) cd_Meeting_solve (0, 0, n1) Q 20 [none, none] [] w) (h2 : ¬ (w 4 5 ≤ x1) → Wp (Cw d) cd_Meeting_solve (0, 0, n1) Q 10 [mR 112, mI x1] [] w) : Wp (Cw d) cd_Meeting_solve (0, 0, n1) Q 5 [mR 112, mI x1] [] w :=
  Wp.s (Wp.s (Wp.s (Wp.s (Wp.s ⟨fun q => Wp.fgd (leA.f (leA.f leA.e)) (h1 q), fun q => h2 q⟩))))
theorem Meeting_solve_112_b10 {d : Nat} {n1 : Int} {Q : MV → Wd → Prop} {x1 : Int} {w : Wd} (h : Cw d 73 [mR 112, mI x1] w (fun r w' => Wp (Cw d) cd_Meeting_solve (0, 0, n1) Q 16 [mR 112, mI x1] [r, mL (w 112 7), mR 112] w')) : Wp (Cw d) cd_Meeting_solve (0, 0, n1) Q 10 [mR 112, mI x1] [] w :=
  Wp.s (Wp.s (Wp.s (Wp.s (Wp.s (Wp.s h)))))
theorem Meeting_solve_112_b16 {d : Nat} {n1 : Int} {Q : MV → Wd → Prop} {x1 s0 s1 : Int} {w : Wd} (h : Wp (Cw d) cd_Meeting_solve (0, 0, n1) Q 5 [mR 112, mI (w32 (x1 + 1))] [] (ub w 112 7 (w64 (s1 + s0)))) : Wp (Cw d) cd_Meeting_solve (0, 0, n1) Q 16 [mR 112, mI x1] [mL s0, mL s1, mR 112] w :=
  Wp.s (Wp.s (Wp.s (Wp.s h)))
theorem Meeting_solve_112_b20 {d : Nat} {n1 : Int} {Q : MV → Wd → Prop} {w : Wd} (h : Q none w) : Wp (Cw d) cd_Meeting_solve (0, 0, n1) Q 20 [none, none] [] w :=
  Wp.s h
theorem Meeting_timesMet_112_b0 {d : Nat} {n1 : Int} {Q : MV → Wd → Prop} {x1 : Int} {w : Wd} (h : Wp (Cw d) cd_Meeting_timesMet (1, 0, n1) Q 4 [mR 112, mI x1, mI 0, mI 0, none] [] w) : Wp (Cw d) cd_Meeting_timesMet (1, 0, n1) Q 0 [mR 112, mI x1, none, none, none] [] w :=
  Wp.s (Wp.s (Wp.s (Wp.s h)))
theorem Meeting_timesMet_112_b4 {d : Nat} {n1 : Int} {Q : MV → Wd → Prop} {x1 x2 x3 : Int} {w : Wd} (h1 : w 4 11 ≤ x3 → Wp (Cw d) cd_Meeting_timesMet (1, 0, n1) Q 31 [none, none, mI x2, none, none] [] w) (h2 : ¬ (w 4 11 ≤ x3) → Wp (Cw d) cd_Meeting_timesMet (1, 0, n1) Q 9 [mR 112, mI x1, mI x2, mI x3, none] [] w) : Wp (Cw d) cd_Meeting_timesMet (1, 0, n1) Q 4 [mR 112, mI x1, mI x2, mI x3, none] [] w :=
  Wp.s (Wp.s (Wp.s (Wp.s (Wp.s ⟨fun q => Wp.fgd (leA.f (leA.f (leA.k (leA.f (leA.f leA.e))))) (h1 q), fun q => h2 q⟩))))
theorem Meeting_timesMet_112_b9 {d : Nat} {n1 : Int} {Q : MV → Wd → Prop} {x1 x2 x3 : Int} {w : Wd} (h : Cw d 95 [mR 112, mI x3] w (fun r w' => Wp (Cw d) cd_Meeting_timesMet (1, 0, n1) Q 12 [mR 112, mI x1, mI x2, mI x3, none] [r] w')) : Wp (Cw d) cd_Meeting_timesMet (1, 0, n1) Q 9 [mR 112, mI x1, mI x2, mI x3, none] [] w :=
  Wp.s (Wp.s (Wp.s h))
theorem Meeting_timesMet_112_b12 {d : Nat} {n1 : Int} {Q : MV → Wd → Prop} {x1 x2 x3 s0 : Int} {w : Wd} (h1 : ¬ s0 = (-1) → Wp (Cw d) cd_Meeting_timesMet (1, 0, n1) Q 19 [mR 112, mI x1, none, mI x3, mI s0] [mI x2] w) (h2 : ¬ (¬ s0 = (-1)) → Wp (Cw d) cd_Meeting_timesMet (1, 0, n1) Q 17 [mR 112, mI x1, none, mI x3, none] [mI x2] w) : Wp (Cw d) cd_Meeting_timesMet (1, 0, n1) Q 12 [mR 112, mI x1, mI x2, mI x3, none] [mI s0] w :=
  Wp.s (Wp.s (Wp.s (Wp.s (Wp.s ⟨fun q => Wp.fgd (leA.k (leA.k (leA.f (leA.k (leA.k leA.e))))) (h1 q), fun q => Wp.fgd (leA.k (leA.k (leA.f (leA.k (leA.f leA.e))))) (h2 q)⟩))))
theorem Meeting_timesMet_112_b17 {d : Nat} {n1 : Int} {Q : MV → Wd → Prop} {x1 x3 s0 : Int} {w : Wd} (h : Wp (Cw d) cd_Meeting_timesMet (1, 0, n1) Q 27 [mR 112, mI x1, none, mI x3, none] [mI 0, mI s0] w) : Wp (Cw d) cd_Meeting_timesMet (1, 0, n1) Q 17 [mR 112, mI x1, none, mI x3, none] [mI s0] w :=
  Wp.s (Wp.s h)
theorem Meeting_timesMet_112_b19 {d : Nat} {n1 : Int} {Q : MV → Wd → Prop} {x1 x3 x4 s0 : Int} {w : Wd} (h : Cw d 77 [mR 112, mI x4, mI x3] w (fun r w' => Wp (Cw d) cd_Meeting_timesMet (1, 0, n1) Q 25 [mR 112, mI x1, none, mI x3, none] [r, mR 113, mI s0] w')) : Wp (Cw d) cd_Meeting_timesMet (1, 0, n1) Q 19 [mR 112, mI x1, none, mI x3, mI x4] [mI s0] w :=
  Wp.s (Wp.s (Wp.s (Wp.s (Wp.s (Wp.s (Cw_mono _ _ _ _ _ _ (fun r w' q => Wp.fgd (leA.k (leA.k (leA.f (leA.k (leA.f leA.e))))) q) h))))))
theorem Meeting_timesMet_112_b25 {d : Nat} {n1 : Int} {Q : MV → Wd → Prop} {x1 x3 s0 s2 : Int} {w : Wd} (h : Cw d 123 [mR 113, mL s0, mI x1] w (fun r w' => Wp (Cw d) cd_Meeting_timesMet (1, 0, n1) Q 27 [mR 112, mI x1, none, mI x3, none] [r, mI s2] w')) : Wp (Cw d) cd_Meeting_timesMet (1, 0, n1) Q 25 [mR 112, mI x1, none, mI x3, none] [mL s0, mR 113, mI s2] w :=
  Wp.s (Wp.s h)
theorem Meeting_timesMet_112_b27 {d : Nat} {n1 : Int} {Q : MV → Wd → Prop} {x1 x3 s0 s1 : Int} {w : Wd} (h : Wp (Cw d) cd_Meeting_timesMet (1, 0, n1) Q 4 [mR 112, mI x1, mI (w32 (s1 + s0)), mI (w32 (x3 + 1)), none] [] w) : Wp (Cw d) cd_Meeting_timesMet (1, 0, n1) Q 27 [mR 112, mI x1, none, mI x3, none] [mI s0, mI s1] w :=
  Wp.s (Wp.s (Wp.s (Wp.s h)))
theorem Meeting_timesMet_112_b31 {d : Nat} {n1 : Int} {Q : MV → Wd → Prop} {x2 : Int} {w : Wd} (h : Q (mI x2) w) : Wp (Cw d) cd_Meeting_timesMet (1, 0, n1) Q 31 [none, none, mI x2, none, none] [] w :=
  Wp.s (Wp.s h)
theorem X_has_b0 {d : Nat} {n1 : Int} {Q : MV → Wd → Prop} {x0 x1 : Int} {w : Wd} (h1 : iand (ishr x0 x1) 1 = 0 → Wp (Cw d) cd_X_has (2, 0, n1) Q 8 [none, none] [] w) (h2 : ¬ (iand (ishr x0 x1) 1 = 0) → Wp (Cw d) cd_X_has (2, 0, n1) Q 6 [none, none] [] w) : Wp (Cw d) cd_X_has (2, 0, n1) Q 0 [mI x0, mI x1] [] w :=
  Wp.s (Wp.s (Wp.s (Wp.s (Wp.s (Wp.s ⟨fun q => Wp.fgd (leA.f (leA.f leA.e)) (h1 q), fun q => Wp.fgd (leA.f (leA.f leA.e)) (h2 q)⟩)))))
theorem X_has_b6 {d : Nat} {n1 : Int} {Q : MV → Wd → Prop} {w : Wd} (h : Wp (Cw d) cd_X_has (2, 0, n1) Q 9 [none, none] [mI 1] w) : Wp (Cw d) cd_X_has (2, 0, n1) Q 6 [none, none] [] w :=
  Wp.s (Wp.s h)
theorem X_has_b8 {d : Nat} {n1 : Int} {Q : MV → Wd → Prop} {w : Wd} (h : Wp (Cw d) cd_X_has (2, 0, n1) Q 9 [none, none] [mI 0] w) : Wp (Cw d) cd_X_has (2, 0, n1) Q 8 [none, none] [] w :=
  Wp.s h
theorem X_has_b9 {d : Nat} {n1 : Int} {Q : MV → Wd → Prop} {s0 : Int} {w : Wd} (g1 : s0 = 0 ∨ s0 = 1) (h : Q (mI s0) w) : Wp (Cw d) cd_X_has (2, 0, n1) Q 9 [none, none] [mI s0] w :=
  Wp.s ⟨g1, h⟩
theorem Ring_painsFrom_137_b0 {d : Nat} {n1 : Int} {Q : MV → Wd → Prop} {x1 : Int} {w : Wd} (h : Cw d 132 [mR 137, mI x1] w (fun r w' => Wp (Cw d) cd_Ring_painsFrom (1, 0, n1) Q 6 [mR 137, mI x1] [r, mR 14] w')) : Wp (Cw d) cd_Ring_painsFrom (1, 0, n1) Q 0 [mR 137, mI x1] [] w :=
  Wp.s (Wp.s (Wp.s (Wp.s (Wp.s (Wp.s h)))))
theorem Ring_painsFrom_137_b6 {d : Nat} {n1 : Int} {Q : MV → Wd → Prop} {x1 s0 : Int} {w : Wd} (h : Cw d 132 [mR 137, mI (w32 (x1 + 1))] w (fun r w' => Wp (Cw d) cd_Ring_painsFrom (1, 0, n1) Q 13 [none, none] [r, mI (w32 (s0 * 8)), mR 14] w')) : Wp (Cw d) cd_Ring_painsFrom (1, 0, n1) Q 6 [mR 137, mI x1] [mI s0, mR 14] w :=
  Wp.s (Wp.s (Wp.s (Wp.s (Wp.s (Wp.s (Wp.s (Cw_mono _ _ _ _ _ _ (fun r w' q => Wp.fgd (leA.f (leA.f leA.e)) q) h)))))))
theorem Ring_painsFrom_137_b13 {d : Nat} {n1 : Int} {Q : MV → Wd → Prop} {s0 s1 : Int} {w : Wd} (g1 : (0 : Int) ≤ w32 (s1 + s0) ∧ w32 (s1 + s0) < 64) (h : Q (mI (w 14 (w32 (s1 + s0)).toNat)) w) : Wp (Cw d) cd_Ring_painsFrom (1, 0, n1) Q 13 [none, none] [mI s0, mI s1, mR 14] w :=
  Wp.s (Wp.s ⟨g1, Wp.s h⟩)
theorem Ring_madeBy_137_b0 {d : Nat} {n1 : Int} {Q : MV → Wd → Prop} {x1 : Int} {w : Wd} (h : Wp (Cw d) cd_Ring_madeBy (1, 0, n1) Q 2 [mR 137, mI x1, mI 0] [] w) : Wp (Cw d) cd_Ring_madeBy (1, 0, n1) Q 0 [mR 137, mI x1, none] [] w :=
  Wp.s (Wp.s h)
theorem Ring_madeBy_137_b2 {d : Nat} {n1 : Int} {Q : MV → Wd → Prop} {x1 x2 : Int} {w : Wd} (h1 : w 4 8 ≤ x2 → Wp (Cw d) cd_Ring_madeBy (1, 0, n1) Q 18 [none, none, none] [] w) (h2 : ¬ (w 4 8 ≤ x2) → Wp (Cw d) cd_Ring_madeBy (1, 0, n1) Q 7 [mR 137, mI x1, mI x2] [] w) : Wp (Cw d) cd_Ring_madeBy (1, 0, n1) Q 2 [mR 137, mI x1, mI x2] [] w :=
  Wp.s (Wp.s (Wp.s (Wp.s (Wp.s ⟨fun q => Wp.fgd (leA.f (leA.f (leA.f leA.e))) (h1 q), fun q => h2 q⟩))))
theorem Ring_madeBy_137_b7 {d : Nat} {n1 : Int} {Q : MV → Wd → Prop} {x1 x2 : Int} {w : Wd} (h : Cw d 61 [mR 4, mI x2, mI 1] w (fun r w' => Wp (Cw d) cd_Ring_madeBy (1, 0, n1) Q 12 [mR 137, mI x1, mI x2] [r] w')) : Wp (Cw d) cd_Ring_madeBy (1, 0, n1) Q 7 [mR 137, mI x1, mI x2] [] w :=
  Wp.s (Wp.s (Wp.s (Wp.s (Wp.s h))))
theorem Ring_madeBy_137_b12 {d : Nat} {n1 : Int} {Q : MV → Wd → Prop} {x1 x2 s0 : Int} {w : Wd} (h1 : ¬ s0 = x1 → Wp (Cw d) cd_Ring_madeBy (1, 0, n1) Q 16 [mR 137, mI x1, mI x2] [] w) (h2 : ¬ (¬ s0 = x1) → Wp (Cw d) cd_Ring_madeBy (1, 0, n1) Q 14 [none, none, mI x2] [] w) : Wp (Cw d) cd_Ring_madeBy (1, 0, n1) Q 12 [mR 137, mI x1, mI x2] [mI s0] w :=
  Wp.s (Wp.s ⟨fun q => h1 q, fun q => Wp.fgd (leA.f (leA.f (leA.k leA.e))) (h2 q)⟩)
theorem Ring_madeBy_137_b14 {d : Nat} {n1 : Int} {Q : MV → Wd → Prop} {x2 : Int} {w : Wd} (h : Q (mI x2) w) : Wp (Cw d) cd_Ring_madeBy (1, 0, n1) Q 14 [none, none, mI x2] [] w :=
  Wp.s (Wp.s h)
theorem Ring_madeBy_137_b16 {d : Nat} {n1 : Int} {Q : MV → Wd → Prop} {x1 x2 : Int} {w : Wd} (h : Wp (Cw d) cd_Ring_madeBy (1, 0, n1) Q 2 [mR 137, mI x1, mI (w32 (x2 + 1))] [] w) : Wp (Cw d) cd_Ring_madeBy (1, 0, n1) Q 16 [mR 137, mI x1, mI x2] [] w :=
  Wp.s (Wp.s h)
theorem Ring_madeBy_137_b18 {d : Nat} {n1 : Int} {Q : MV → Wd → Prop} {w : Wd} (h : Q (mI ((-1))) w) : Wp (Cw d) cd_Ring_madeBy (1, 0, n1) Q 18 [none, none, none] [] w :=
  Wp.s (Wp.s h)
theorem Ring_goes_137_b0 {d : Nat} {n1 : Int} {Q : MV → Wd → Prop} {x1 x2 : Int} {w : Wd} (h : Cw d 132 [mR 137, mI x2] w (fun r w' => Wp (Cw d) cd_Ring_goes (2, 0, n1) Q 4 [mR 137, mI x1, mI x2, none, none, none] [r, mI 1] w')) : Wp (Cw d) cd_Ring_goes (2, 0, n1) Q 0 [mR 137, mI x1, mI x2, none, none, none] [] w :=
  Wp.s (Wp.s (Wp.s (Wp.s h)))
theorem Ring_goes_137_b4 {d : Nat} {n1 : Int} {Q : MV → Wd → Prop} {x1 x2 s0 s1 : Int} {w : Wd} (h : Wp (Cw d) cd_Ring_goes (2, 0, n1) Q 8 [mR 137, mI x1, mI x2, mI (ishl s1 s0), mI 1, none] [] w) : Wp (Cw d) cd_Ring_goes (2, 0, n1) Q 4 [mR 137, mI x1, mI x2, none, none, none] [mI s0, mI s1] w :=
  Wp.s (Wp.s (Wp.s (Wp.s h)))
theorem Ring_goes_137_b8 {d : Nat} {n1 : Int} {Q : MV → Wd → Prop} {x1 x2 x3 x4 : Int} {w : Wd} (h1 : w 4 15 ≤ x4 → Wp (Cw d) cd_Ring_goes (2, 0, n1) Q 42 [none, none, none, none, none, none] [] w) (h2 : ¬ (w 4 15 ≤ x4) → Wp (Cw d) cd_Ring_goes (2, 0, n1) Q 13 [mR 137, mI x1, mI x2, mI x3, mI x4, none] [] w) : Wp (Cw d) cd_Ring_goes (2, 0, n1) Q 8 [mR 137, mI x1, mI x2, mI x3, mI x4, none] [] w :=
  Wp.s (Wp.s (Wp.s (Wp.s (Wp.s ⟨fun q => Wp.fgd (leA.f (leA.f (leA.f (leA.f (leA.f (leA.f leA.e)))))) (h1 q), fun q => h2 q⟩))))
theorem Ring_goes_137_b13 {d : Nat} {n1 : Int} {Q : MV → Wd → Prop} {x1 x2 x3 x4 : Int} {w : Wd} (h : Cw d 132 [mR 137, mI (w32 (x2 + x4))] w (fun r w' => Wp (Cw d) cd_Ring_goes (2, 0, n1) Q 18 [mR 137, mI x1, mI x2, mI x3, mI x4, none] [r] w')) : Wp (Cw d) cd_Ring_goes (2, 0, n1) Q 13 [mR 137, mI x1, mI x2, mI x3, mI x4, none] [] w :=
  Wp.s (Wp.s (Wp.s (Wp.s (Wp.s h))))
theorem Ring_goes_137_b18 {d : Nat} {n1 : Int} {Q : MV → Wd → Prop} {x1 x2 x3 x4 s0 : Int} {w : Wd} (h : Cw d 60 [mR 4, mI x1] w (fun r w' => Wp (Cw d) cd_Ring_goes (2, 0, n1) Q 28 [mR 137, mI x1, mI x2, mI x3, mI x4, mI s0] [r, mI (w 4 16), mR 4] w')) : Wp (Cw d) cd_Ring_goes (2, 0, n1) Q 18 [mR 137, mI x1, mI x2, mI x3, mI x4, none] [mI s0] w :=
  Wp.s (Wp.s (Wp.s (Wp.s (Wp.s (Wp.s (Wp.s (Wp.s (Wp.s (Wp.s h)))))))))
theorem Ring_goes_137_b28 {d : Nat} {n1 : Int} {Q : MV → Wd → Prop} {x1 x2 x3 x4 x5 s0 s1 : Int} {w : Wd} (h : Cw d 67 [mR 4, mI s1, mI s0, mI x3, mI x5] w (fun r w' => Wp (Cw d) cd_Ring_goes (2, 0, n1) Q 31 [mR 137, mI x1, mI x2, mI x3, mI x4, mI x5] [r] w')) : Wp (Cw d) cd_Ring_goes (2, 0, n1) Q 28 [mR 137, mI x1, mI x2, mI x3, mI x4, mI x5] [mI s0, mI s1, mR 4] w :=
  Wp.s (Wp.s (Wp.s h))
theorem Ring_goes_137_b31 {d : Nat} {n1 : Int} {Q : MV → Wd → Prop} {x1 x2 x3 x4 x5 s0 : Int} {w : Wd} (h1 : ¬ s0 = 0 → Wp (Cw d) cd_Ring_goes (2, 0, n1) Q 34 [mR 137, mI x1, mI x2, mI x3, mI x4, mI x5] [] w) (h2 : ¬ (¬ s0 = 0) → Wp (Cw d) cd_Ring_goes (2, 0, n1) Q 32 [none, none, none, none, none, none] [] w) : Wp (Cw d) cd_Ring_goes (2, 0, n1) Q 31 [mR 137, mI x1, mI x2, mI x3, mI x4, mI x5] [mI s0] w :=
  Wp.s ⟨fun q => h1 q, fun q => Wp.fgd (leA.f (leA.f (leA.f (leA.f (leA.f (leA.f leA.e)))))) (h2 q)⟩
theorem Ring_goes_137_b32 {d : Nat} {n1 : Int} {Q : MV → Wd → Prop} {w : Wd} (h : Q (mI 0) w) : Wp (Cw d) cd_Ring_goes (2, 0, n1) Q 32 [none, none, none, none, none, none] [] w :=
  Wp.s (Wp.s ⟨(Or.inl rfl), h⟩)
theorem Ring_goes_137_b34 {d : Nat} {n1 : Int} {Q : MV → Wd → Prop} {x1 x2 x3 x4 x5 : Int} {w : Wd} (h : Wp (Cw d) cd_Ring_goes (2, 0, n1) Q 8 [mR 137, mI x1, mI x2, mI (ior x3 (ishl 1 x5)), mI (w32 (x4 + 1)), none] [] w) : Wp (Cw d) cd_Ring_goes (2, 0, n1) Q 34 [mR 137, mI x1, mI x2, mI x3, mI x4, mI x5] [] w :=
  Wp.s (Wp.s (Wp.s (Wp.s (Wp.s (Wp.s (Wp.s (Wp.s (Wp.fgd (leA.k (leA.k (leA.k (leA.k (leA.k (leA.f leA.e)))))) h))))))))
theorem Ring_goes_137_b42 {d : Nat} {n1 : Int} {Q : MV → Wd → Prop} {w : Wd} (h : Q (mI 1) w) : Wp (Cw d) cd_Ring_goes (2, 0, n1) Q 42 [none, none, none, none, none, none] [] w :=
  Wp.s (Wp.s ⟨(Or.inr rfl), h⟩)
theorem Ring_send_137_b0 {d : Nat} {n1 : Int} {Q : MV → Wd → Prop} {x1 x2 : Int} {w : Wd} (h : Wp (Cw d) cd_Ring_send (0, 0, n1) Q 2 [mR 137, mI x1, mI x2, mI 0] [] w) : Wp (Cw d) cd_Ring_send (0, 0, n1) Q 0 [mR 137, mI x1, mI x2, none] [] w :=
  Wp.s (Wp.s h)
theorem Ring_send_137_b2 {d : Nat} {n1 : Int} {Q : MV → Wd → Prop} {x1 x2 x3 : Int} {w : Wd} (h1 : w32 ((w 4 15) - 1) ≤ x3 → Wp (Cw d) cd_Ring_send (0, 0, n1) Q 27 [mR 137, mI x1, mI x2, none] [] w) (h2 : ¬ (w32 ((w 4 15) - 1) ≤ x3) → Wp (Cw d) cd_Ring_send (0, 0, n1) Q 9 [mR 137, mI x1, mI x2, mI x3] [] w) : Wp (Cw d) cd_Ring_send (0, 0, n1) Q 2 [mR 137, mI x1, mI x2, mI x3] [] w :=
  Wp.s (Wp.s (Wp.s (Wp.s (Wp.s (Wp.s (Wp.s ⟨fun q => Wp.fgd (leA.k (leA.k (leA.k (leA.f leA.e)))) (h1 q), fun q => h2 q⟩))))))
theorem Ring_send_137_b9 {d : Nat} {n1 : Int} {Q : MV → Wd → Prop} {x1 x2 x3 : Int} {w : Wd} (h : Cw d 133 [mR 137, mI (w32 (x2 + x3))] w (fun r w' => Wp (Cw d) cd_Ring_send (0, 0, n1) Q 16 [mR 137, mI x1, mI x2, mI x3] [r, mR 139] w')) : Wp (Cw d) cd_Ring_send (0, 0, n1) Q 9 [mR 137, mI x1, mI x2, mI x3] [] w :=
  Wp.s (Wp.s (Wp.s (Wp.s (Wp.s (Wp.s (Wp.s h))))))
theorem Ring_send_137_b16 {d : Nat} {n1 : Int} {Q : MV → Wd → Prop} {x1 x2 x3 s0 : Int} {w : Wd} (g1 : (0 : Int) ≤ s0 ∧ s0 < 8) (h : Cw d 131 [mR 137, mI (w32 (x2 + x3))] w (fun r w' => Wp (Cw d) cd_Ring_send (0, 0, n1) Q 23 [mR 137, mI x1, mI x2, mI x3] [r, mI (w 139 s0.toNat), mI s0, mR 139] w')) : Wp (Cw d) cd_Ring_send (0, 0, n1) Q 16 [mR 137, mI x1, mI x2, mI x3] [mI s0, mR 139] w :=
  Wp.s (Wp.s ⟨g1, Wp.s (Wp.s (Wp.s (Wp.s (Wp.s h))))⟩)
theorem Ring_send_137_b23 {d : Nat} {n1 : Int} {Q : MV → Wd → Prop} {x1 x2 x3 s0 s1 s2 : Int} {w : Wd} (g1 : (0 : Int) ≤ s2 ∧ s2 < 8) (h : Wp (Cw d) cd_Ring_send (0, 0, n1) Q 2 [mR 137, mI x1, mI x2, mI (w32 (x3 + 1))] [] (ub w 139 s2.toNat (w32 (s1 - s0)))) : Wp (Cw d) cd_Ring_send (0, 0, n1) Q 23 [mR 137, mI x1, mI x2, mI x3] [mI s0, mI s1, mI s2, mR 139] w :=
  Wp.s (Wp.s ⟨g1, Wp.s (Wp.s h)⟩)
theorem Ring_send_137_b27 {d : Nat} {n1 : Int} {Q : MV → Wd → Prop} {x1 x2 : Int} {w : Wd} (h : Cw d 133 [mR 137, mI (w32 ((w32 (x2 + (w 4 15))) - 1))] w (fun r w' => Wp (Cw d) cd_Ring_send (0, 0, n1) Q 36 [mR 137, mI x1, none, none] [r] w')) : Wp (Cw d) cd_Ring_send (0, 0, n1) Q 27 [mR 137, mI x1, mI x2, none] [] w :=
  Wp.s (Wp.s (Wp.s (Wp.s (Wp.s (Wp.s (Wp.s (Wp.s (Wp.s (Cw_mono _ _ _ _ _ _ (fun r w' q => Wp.fgd (leA.k (leA.k (leA.f (leA.f leA.e)))) q) h)))))))))
theorem Ring_send_137_b36 {d : Nat} {n1 : Int} {Q : MV → Wd → Prop} {x1 s0 : Int} {w : Wd} (g1 : (0 : Int) ≤ s0 ∧ s0 < 8) (g2 : (0 : Int) ≤ s0 ∧ s0 < 8) (h : Cw d 61 [mR 4, mI x1, mI 0] w (fun r w' => Wp (Cw d) cd_Ring_send (0, 0, n1) Q 52 [none, none, none, none] [r, mI (w 138 s0.toNat), mR 137, mI (w 139 s0.toNat), mI s0, mR 139] w')) : Wp (Cw d) cd_Ring_send (0, 0, n1) Q 36 [mR 137, mI x1, none, none] [mI s0] w :=
  Wp.s (Wp.s (Wp.s (Wp.s (Wp.s (Wp.s ⟨g1, Wp.s (Wp.s (Wp.s (Wp.s (Wp.s ⟨g2, Wp.s (Wp.s (Wp.s (Wp.s (Wp.s (Cw_mono _ _ _ _ _ _ (fun r w' q => Wp.fgd (leA.f (leA.f (leA.f (leA.f leA.e)))) q) h)))))⟩))))⟩)))))
theorem Ring_send_137_b52 {d : Nat} {n1 : Int} {Q : MV → Wd → Prop} {s0 s1 s3 s4 : Int} {w : Wd} (h : Cw d 138 [mR 137, mI s1, mI s0] w (fun r w' => Wp (Cw d) cd_Ring_send (0, 0, n1) Q 53 [none, none, none, none] [r, mI s3, mI s4, mR 139] w')) : Wp (Cw d) cd_Ring_send (0, 0, n1) Q 52 [none, none, none, none] [mI s0, mI s1, mR 137, mI s3, mI s4, mR 139] w :=
  Wp.s h
theorem Ring_send_137_b53 {d : Nat} {n1 : Int} {Q : MV → Wd → Prop} {s0 s1 s2 : Int} {w : Wd} (g1 : (0 : Int) ≤ s2 ∧ s2 < 8) (h : Q none (ub w 139 s2.toNat (w32 (s1 + s0)))) : Wp (Cw d) cd_Ring_send (0, 0, n1) Q 53 [none, none, none, none] [mI s0, mI s1, mI s2, mR 139] w :=
  Wp.s (Wp.s ⟨g1, Wp.s h⟩)
theorem M_octet_144_b0 {d : Nat} {n1 : Int} {Q : MV → Wd → Prop} {x1 : Int} {w : Wd} (g1 : (0 : Int) ≤ x1 ∧ x1 < 1040) (h : Q (mI (iand (w 145 x1.toNat) 255)) w) : Wp (Cw d) cd_M_octet (1, 0, n1) Q 0 [mR 144, mI x1] [] w :=
  Wp.s (Wp.s (Wp.s (Wp.s ⟨g1, Wp.s (Wp.s (Wp.s h))⟩)))
theorem M_unitBy_144_b0 {d : Nat} {n1 : Int} {Q : MV → Wd → Prop} {x1 : Int} {w : Wd} (h : Wp (Cw d) cd_M_unitBy (1, 0, n1) Q 2 [mR 144, mI x1, mI 0] [] w) : Wp (Cw d) cd_M_unitBy (1, 0, n1) Q 0 [mR 144, mI x1, none] [] w :=
  Wp.s (Wp.s h)
theorem M_unitBy_144_b2 {d : Nat} {n1 : Int} {Q : MV → Wd → Prop} {x1 x2 : Int} {w : Wd} (h1 : w 146 2.toNat ≤ x2 → Wp (Cw d) cd_M_unitBy (1, 0, n1) Q 24 [none, none, none] [] w) (h2 : ¬ (w 146 2.toNat ≤ x2) → Wp (Cw d) cd_M_unitBy (1, 0, n1) Q 8 [mR 144, mI x1, mI x2] [] w) : Wp (Cw d) cd_M_unitBy (1, 0, n1) Q 2 [mR 144, mI x1, mI x2] [] w :=
  Wp.s (Wp.s (Wp.s (Wp.s (Wp.s ⟨(by decide), Wp.s ⟨fun q => Wp.fgd (leA.f (leA.f (leA.f leA.e))) (h1 q), fun q => h2 q⟩⟩))))
theorem M_unitBy_144_b8 {d : Nat} {n1 : Int} {Q : MV → Wd → Prop} {x1 x2 : Int} {w : Wd} (g1 : (0 : Int) ≤ w32 ((w32 (29 + (w32 (5 * x2)))) + 2) ∧ w32 ((w32 (29 + (w32 (5 * x2)))) + 2) < 645) (h1 : ¬ w 146 (w32 ((w32 (29 + (w32 (5 * x2)))) + 2)).toNat = x1 → Wp (Cw d) cd_M_unitBy (1, 0, n1) Q 22 [mR 144, mI x1, mI x2] [] w) (h2 : ¬ (¬ w 146 (w32 ((w32 (29 + (w32 (5 * x2)))) + 2)).toNat = x1) → Wp (Cw d) cd_M_unitBy (1, 0, n1) Q 20 [none, none, mI x2] [] w) : Wp (Cw d) cd_M_unitBy (1, 0, n1) Q 8 [mR 144, mI x1, mI x2] [] w :=
  Wp.s (Wp.s (Wp.s (Wp.s (Wp.s (Wp.s (Wp.s (Wp.s (Wp.s (Wp.s ⟨g1, Wp.s (Wp.s ⟨fun q => h1 q, fun q => Wp.fgd (leA.f (leA.f (leA.k leA.e))) (h2 q)⟩)⟩)))))))))
theorem M_unitBy_144_b20 {d : Nat} {n1 : Int} {Q : MV → Wd → Prop} {x2 : Int} {w : Wd} (h : Q (mI x2) w) : Wp (Cw d) cd_M_unitBy (1, 0, n1) Q 20 [none, none, mI x2] [] w :=
  Wp.s (Wp.s h)
theorem M_unitBy_144_b22 {d : Nat} {n1 : Int} {Q : MV → Wd → Prop} {x1 x2 : Int} {w : Wd} (h : Wp (Cw d) cd_M_unitBy (1, 0, n1) Q 2 [mR 144, mI x1, mI (w32 (x2 + 1))] [] w) : Wp (Cw d) cd_M_unitBy (1, 0, n1) Q 22 [mR 144, mI x1, mI x2] [] w :=
  Wp.s (Wp.s h)
theorem M_unitBy_144_b24 {d : Nat} {n1 : Int} {Q : MV → Wd → Prop} {w : Wd} (h : Q (mI ((-1))) w) : Wp (Cw d) cd_M_unitBy (1, 0, n1) Q 24 [none, none, none] [] w :=
  Wp.s (Wp.s h)
theorem M_goesOn_144_b0 {d : Nat} {n1 : Int} {Q : MV → Wd → Prop} {x1 x2 : Int} {w : Wd} (g1 : (0 : Int) ≤ x2 ∧ x2 < 8) (g2 : (0 : Int) ≤ x2 ∧ x2 < 8) (g3 : (0 : Int) ≤ w32 (7 + (w 177 x2.toNat)) ∧ w32 (7 + (w 177 x2.toNat)) < 645) (h : Wp (Cw d) cd_M_goesOn (2, 0, n1) Q 21 [mR 144, mI x1, mI x2, mI (ishl 1 (w 177 x2.toNat)), mI (ishl 1 (w 146 (w32 (7 + (w 177 x2.toNat))).toNat)), mI 1, none] [] w) : Wp (Cw d) cd_M_goesOn (2, 0, n1) Q 0 [mR 144, mI x1, mI x2, none, none, none, none] [] w :=
  Wp.s (Wp.s (Wp.s (Wp.s (Wp.s ⟨g1, Wp.s (Wp.s (Wp.s (Wp.s (Wp.s (Wp.s (Wp.s (Wp.s (Wp.s (Wp.s ⟨g2, Wp.s (Wp.s ⟨g3, Wp.s (Wp.s (Wp.s (Wp.s h)))⟩)⟩)))))))))⟩))))
theorem M_goesOn_144_b21 {d : Nat} {n1 : Int} {Q : MV → Wd → Prop} {x1 x2 x3 x4 x5 : Int} {w : Wd} (h1 : w 146 4.toNat ≤ x5 → Wp (Cw d) cd_M_goesOn (2, 0, n1) Q 107 [none, none, none, none, none, none, none] [] w) (h2 : ¬ (w 146 4.toNat ≤ x5) → Wp (Cw d) cd_M_goesOn (2, 0, n1) Q 27 [mR 144, mI x1, mI x2, mI x3, mI x4, mI x5, none] [] w) : Wp (Cw d) cd_M_goesOn (2, 0, n1) Q 21 [mR 144, mI x1, mI x2, mI x3, mI x4, mI x5, none] [] w :=
  Wp.s (Wp.s (Wp.s (Wp.s (Wp.s ⟨(by decide), Wp.s ⟨fun q => Wp.fgd (leA.f (leA.f (leA.f (leA.f (leA.f (leA.f (leA.f leA.e))))))) (h1 q), fun q => h2 q⟩⟩))))
theorem M_goesOn_144_b27 {d : Nat} {n1 : Int} {Q : MV → Wd → Prop} {x1 x2 x3 x4 x5 : Int} {w : Wd} (g1 : ¬ w 144 70 = 0) (g2 : (0 : Int) ≤ Int.tmod (w32 (x2 + x5)) (w 144 70) ∧ Int.tmod (w32 (x2 + x5)) (w 144 70) < 8) (h1 : ¬ w 146 5.toNat = 1 → Wp (Cw d) cd_M_goesOn (2, 0, n1) Q 54 [mR 144, mI x1, mI x2, mI x3, mI x4, mI x5, mI (w 177 (Int.tmod (w32 (x2 + x5)) (w 144 70)).toNat)] [] w) (h2 : ¬ (¬ w 146 5.toNat = 1) → Wp (Cw d) cd_M_goesOn (2, 0, n1) Q 43 [mR 144, mI x1, mI x2, mI x3, mI x4, mI x5, mI (w 177 (Int.tmod (w32 (x2 + x5)) (w 144 70)).toNat)] [] w) : Wp (Cw d) cd_M_goesOn (2, 0, n1) Q 27 [mR 144, mI x1, mI x2, mI x3, mI x4, mI x5, none] [] w :=
  Wp.s (Wp.s (Wp.s (Wp.s (Wp.s (Wp.s (Wp.s (Wp.s ⟨g1, Wp.s ⟨g2, Wp.s (Wp.s (Wp.s (Wp.s (Wp.s ⟨(by decide), Wp.s (Wp.s ⟨fun q => h1 q, fun q => h2 q⟩)⟩))))⟩⟩)))))))
theorem M_goesOn_144_b43 {d : Nat} {n1 : Int} {Q : MV → Wd → Prop} {x1 x2 x3 x4 x5 x6 : Int} {w : Wd} (h : Cw d 211 [mI x3, mI x6] w (fun r w' => Wp (Cw d) cd_M_goesOn (2, 0, n1) Q 46 [mR 144, mI x1, mI x2, mI x3, mI x4, mI x5, mI x6] [r] w')) : Wp (Cw d) cd_M_goesOn (2, 0, n1) Q 43 [mR 144, mI x1, mI x2, mI x3, mI x4, mI x5, mI x6] [] w :=
  Wp.s (Wp.s (Wp.s h))
theorem M_goesOn_144_b46 {d : Nat} {n1 : Int} {Q : MV → Wd → Prop} {x1 x2 x3 x4 x5 x6 s0 : Int} {w : Wd} (h1 : s0 = 0 → Wp (Cw d) cd_M_goesOn (2, 0, n1) Q 54 [mR 144, mI x1, mI x2, mI x3, mI x4, mI x5, mI x6] [] w) (h2 : ¬ (s0 = 0) → Wp (Cw d) cd_M_goesOn (2, 0, n1) Q 47 [mR 144, mI x1, mI x2, mI x3, mI x4, mI x5, mI x6] [] w) : Wp (Cw d) cd_M_goesOn (2, 0, n1) Q 46 [mR 144, mI x1, mI x2, mI x3, mI x4, mI x5, mI x6] [mI s0] w :=
  Wp.s ⟨fun q => h1 q, fun q => h2 q⟩
theorem M_goesOn_144_b47 {d : Nat} {n1 : Int} {Q : MV → Wd → Prop} {x1 x2 x3 x4 x5 x6 : Int} {w : Wd} (h : Cw d 217 [mR 144, mI x1, mI x6] w (fun r w' => Wp (Cw d) cd_M_goesOn (2, 0, n1) Q 51 [mR 144, mI x1, mI x2, mI x3, mI x4, mI x5, mI x6] [r] w')) : Wp (Cw d) cd_M_goesOn (2, 0, n1) Q 47 [mR 144, mI x1, mI x2, mI x3, mI x4, mI x5, mI x6] [] w :=
  Wp.s (Wp.s (Wp.s (Wp.s h)))
theorem M_goesOn_144_b51 {d : Nat} {n1 : Int} {Q : MV → Wd → Prop} {x1 x2 x3 x4 x5 x6 s0 : Int} {w : Wd} (h1 : ¬ s0 = 0 → Wp (Cw d) cd_M_goesOn (2, 0, n1) Q 54 [mR 144, mI x1, mI x2, mI x3, mI x4, mI x5, mI x6] [] w) (h2 : ¬ (¬ s0 = 0) → Wp (Cw d) cd_M_goesOn (2, 0, n1) Q 52 [none, none, none, none, none, none, none] [] w) : Wp (Cw d) cd_M_goesOn (2, 0, n1) Q 51 [mR 144, mI x1, mI x2, mI x3, mI x4, mI x5, mI x6] [mI s0] w :=
  Wp.s ⟨fun q => h1 q, fun q => Wp.fgd (leA.f (leA.f (leA.f (leA.f (leA.f (leA.f (leA.f leA.e))))))) (h2 q)⟩
theorem M_goesOn_144_b52 {d : Nat} {n1 : Int} {Q : MV → Wd → Prop} {w : Wd} (h : Q (mI 0) w) : Wp (Cw d) cd_M_goesOn (2, 0, n1) Q 52 [none, none, none, none, none, none, none] [] w :=
  Wp.s (Wp.s ⟨(Or.inl rfl), h⟩)
theorem M_goesOn_144_b54 {d : Nat} {n1 : Int} {Q : MV → Wd → Prop} {x1 x2 x3 x4 x5 x6 : Int} {w : Wd} (h1 : ¬ w 146 5.toNat = 2 → Wp (Cw d) cd_M_goesOn (2, 0, n1) Q 71 [mR 144, mI x1, mI x2, mI x3, mI x4, mI x5, mI x6] [] w) (h2 : ¬ (¬ w 146 5.toNat = 2) → Wp (Cw d) cd_M_goesOn (2, 0, n1) Q 60 [mR 144, mI x1, mI x2, mI x3, mI x4, mI x5, mI x6] [] w) : Wp (Cw d) cd_M_goesOn (2, 0, n1) Q 54 [mR 144, mI x1, mI x2, mI x3, mI x4, mI x5, mI x6] [] w :=
  Wp.s (Wp.s (Wp.s (Wp.s ⟨(by decide), Wp.s (Wp.s ⟨fun q => h1 q, fun q => h2 q⟩)⟩)))
theorem M_goesOn_144_b60 {d : Nat} {n1 : Int} {Q : MV → Wd → Prop} {x1 x2 x3 x4 x5 x6 : Int} {w : Wd} (h : Cw d 211 [mI x3, mI x6] w (fun r w' => Wp (Cw d) cd_M_goesOn (2, 0, n1) Q 63 [mR 144, mI x1, mI x2, mI x3, mI x4, mI x5, mI x6] [r] w')) : Wp (Cw d) cd_M_goesOn (2, 0, n1) Q 60 [mR 144, mI x1, mI x2, mI x3, mI x4, mI x5, mI x6] [] w :=
  Wp.s (Wp.s (Wp.s h))
theorem M_goesOn_144_b63 {d : Nat} {n1 : Int} {Q : MV → Wd → Prop} {x1 x2 x3 x4 x5 x6 s0 : Int} {w : Wd} (h1 : ¬ s0 = 0 → Wp (Cw d) cd_M_goesOn (2, 0, n1) Q 69 [none, none, none, none, none, none, none] [] w) (h2 : ¬ (¬ s0 = 0) → Wp (Cw d) cd_M_goesOn (2, 0, n1) Q 64 [mR 144, mI x1, mI x2, mI x3, mI x4, mI x5, mI x6] [] w) : Wp (Cw d) cd_M_goesOn (2, 0, n1) Q 63 [mR 144, mI x1, mI x2, mI x3, mI x4, mI x5, mI x6] [mI s0] w :=
  Wp.s ⟨fun q => Wp.fgd (leA.f (leA.f (leA.f (leA.f (leA.f (leA.f (leA.f leA.e))))))) (h1 q), fun q => h2 q⟩
theorem M_goesOn_144_b64 {d : Nat} {n1 : Int} {Q : MV → Wd → Prop} {x1 x2 x3 x4 x5 x6 : Int} {w : Wd} (h : Cw d 217 [mR 144, mI x1, mI x6] w (fun r w' => Wp (Cw d) cd_M_goesOn (2, 0, n1) Q 68 [mR 144, mI x1, mI x2, mI x3, mI x4, mI x5, mI x6] [r] w')) : Wp (Cw d) cd_M_goesOn (2, 0, n1) Q 64 [mR 144, mI x1, mI x2, mI x3, mI x4, mI x5, mI x6] [] w :=
  Wp.s (Wp.s (Wp.s (Wp.s h)))
theorem M_goesOn_144_b68 {d : Nat} {n1 : Int} {Q : MV → Wd → Prop} {x1 x2 x3 x4 x5 x6 s0 : Int} {w : Wd} (h1 : s0 = 0 → Wp (Cw d) cd_M_goesOn (2, 0, n1) Q 71 [mR 144, mI x1, mI x2, mI x3, mI x4, mI x5, mI x6] [] w) (h2 : ¬ (s0 = 0) → Wp (Cw d) cd_M_goesOn (2, 0, n1) Q 69 [none, none, none, none, none, none, none] [] w) : Wp (Cw d) cd_M_goesOn (2, 0, n1) Q 68 [mR 144, mI x1, mI x2, mI x3, mI x4, mI x5, mI x6] [mI s0] w :=
  Wp.s ⟨fun q => h1 q, fun q => Wp.fgd (leA.f (leA.f (leA.f (leA.f (leA.f (leA.f (leA.f leA.e))))))) (h2 q)⟩
theorem M_goesOn_144_b69 {d : Nat} {n1 : Int} {Q : MV → Wd → Prop} {w : Wd} (h : Q (mI 0) w) : Wp (Cw d) cd_M_goesOn (2, 0, n1) Q 69 [none, none, none, none, none, none, none] [] w :=
  Wp.s (Wp.s ⟨(Or.inl rfl), h⟩)
theorem M_goesOn_144_b71 {d : Nat} {n1 : Int} {Q : MV → Wd → Prop} {x1 x2 x3 x4 x5 x6 : Int} {w : Wd} (h1 : ¬ w 146 5.toNat = 3 → Wp (Cw d) cd_M_goesOn (2, 0, n1) Q 88 [mR 144, mI x1, mI x2, mI x3, mI x4, mI x5, mI x6] [] w) (h2 : ¬ (¬ w 146 5.toNat = 3) → Wp (Cw d) cd_M_goesOn (2, 0, n1) Q 77 [mR 144, mI x1, mI x2, mI x3, mI x4, mI x5, mI x6] [] w) : Wp (Cw d) cd_M_goesOn (2, 0, n1) Q 71 [mR 144, mI x1, mI x2, mI x3, mI x4, mI x5, mI x6] [] w :=
  Wp.s (Wp.s (Wp.s (Wp.s ⟨(by decide), Wp.s (Wp.s ⟨fun q => h1 q, fun q => h2 q⟩)⟩)))
theorem M_goesOn_144_b77 {d : Nat} {n1 : Int} {Q : MV → Wd → Prop} {x1 x2 x3 x4 x5 x6 : Int} {w : Wd} (g1 : (0 : Int) ≤ w32 (7 + x6) ∧ w32 (7 + x6) < 645) (h : Cw d 211 [mI x4, mI (w 146 (w32 (7 + x6)).toNat)] w (fun r w' => Wp (Cw d) cd_M_goesOn (2, 0, n1) Q 85 [mR 144, mI x1, mI x2, mI x3, mI x4, mI x5, mI x6] [r] w')) : Wp (Cw d) cd_M_goesOn (2, 0, n1) Q 77 [mR 144, mI x1, mI x2, mI x3, mI x4, mI x5, mI x6] [] w :=
  Wp.s (Wp.s (Wp.s (Wp.s (Wp.s (Wp.s (Wp.s ⟨g1, Wp.s h⟩))))))
theorem M_goesOn_144_b85 {d : Nat} {n1 : Int} {Q : MV → Wd → Prop} {x1 x2 x3 x4 x5 x6 s0 : Int} {w : Wd} (h1 : s0 = 0 → Wp (Cw d) cd_M_goesOn (2, 0, n1) Q 88 [mR 144, mI x1, mI x2, mI x3, mI x4, mI x5, mI x6] [] w) (h2 : ¬ (s0 = 0) → Wp (Cw d) cd_M_goesOn (2, 0, n1) Q 86 [none, none, none, none, none, none, none] [] w) : Wp (Cw d) cd_M_goesOn (2, 0, n1) Q 85 [mR 144, mI x1, mI x2, mI x3, mI x4, mI x5, mI x6] [mI s0] w :=
  Wp.s ⟨fun q => h1 q, fun q => Wp.fgd (leA.f (leA.f (leA.f (leA.f (leA.f (leA.f (leA.f leA.e))))))) (h2 q)⟩
theorem M_goesOn_144_b86 {d : Nat} {n1 : Int} {Q : MV → Wd → Prop} {w : Wd} (h : Q (mI 0) w) : Wp (Cw d) cd_M_goesOn (2, 0, n1) Q 86 [none, none, none, none, none, none, none] [] w :=
  Wp.s (Wp.s ⟨(Or.inl rfl), h⟩)
theorem M_goesOn_144_b88 {d : Nat} {n1 : Int} {Q : MV → Wd → Prop} {x1 x2 x3 x4 x5 x6 : Int} {w : Wd} (g1 : (0 : Int) ≤ w32 (7 + x6) ∧ w32 (7 + x6) < 645) (h : Wp (Cw d) cd_M_goesOn (2, 0, n1) Q 21 [mR 144, mI x1, mI x2, mI (ior x3 (ishl 1 x6)), mI (ior x4 (ishl 1 (w 146 (w32 (7 + x6)).toNat))), mI (w32 (x5 + 1)), none] [] w) : Wp (Cw d) cd_M_goesOn (2, 0, n1) Q 88 [mR 144, mI x1, mI x2, mI x3, mI x4, mI x5, mI x6] [] w :=
  Wp.s (Wp.s (Wp.s (Wp.s (Wp.s (Wp.s (Wp.s (Wp.s (Wp.s (Wp.s (Wp.s (Wp.s (Wp.s (Wp.s ⟨g1, Wp.s (Wp.s (Wp.s (Wp.s (Wp.s (Wp.fgd (leA.k (leA.k (leA.k (leA.k (leA.k (leA.k (leA.f leA.e))))))) h)))))⟩)))))))))))))
theorem M_goesOn_144_b107 {d : Nat} {n1 : Int} {Q : MV → Wd → Prop} {w : Wd} (h : Q (mI 1) w) : Wp (Cw d) cd_M_goesOn (2, 0, n1) Q 107 [none, none, none, none, none, none, none] [] w :=
  Wp.s (Wp.s ⟨(Or.inr rfl), h⟩)
theorem Meeting_unitFor_112_b0 {d : Nat} {n1 : Int} {Q : MV → Wd → Prop} {x1 : Int} {w : Wd} (h : Cw d 79 [mI x1] w (fun r w' => Wp (Cw d) cd_Meeting_unitFor (1, 0, n1) Q 4 [none, none, none] [r, mL (w 112 7)] w')) : Wp (Cw d) cd_Meeting_unitFor (1, 0, n1) Q 0 [mR 112, mI x1, none] [] w :=
  Wp.s (Wp.s (Wp.s (Wp.s (Cw_mono _ _ _ _ _ _ (fun r w' q => Wp.fgd (leA.f (leA.f (leA.f leA.e))) q) h))))
theorem Meeting_unitFor_112_b4 {d : Nat} {n1 : Int} {Q : MV → Wd → Prop} {s0 s1 : Int} {w : Wd} (h1 : ¬ iand (w32 (lshr s1 s0)) 31 = 0 → Wp (Cw d) cd_Meeting_unitFor (1, 0, n1) Q 13 [none, none, mI (iand (w32 (lshr s1 s0)) 31)] [] w) (h2 : ¬ (¬ iand (w32 (lshr s1 s0)) 31 = 0) → Wp (Cw d) cd_Meeting_unitFor (1, 0, n1) Q 11 [none, none, none] [] w) : Wp (Cw d) cd_Meeting_unitFor (1, 0, n1) Q 4 [none, none, none] [mI s0, mL s1] w :=
  Wp.s (Wp.s (Wp.s (Wp.s (Wp.s (Wp.s (Wp.s ⟨fun q => h1 q, fun q => Wp.fgd (leA.f (leA.f (leA.f leA.e))) (h2 q)⟩))))))
theorem Meeting_unitFor_112_b11 {d : Nat} {n1 : Int} {Q : MV → Wd → Prop} {w : Wd} (h : Wp (Cw d) cd_Meeting_unitFor (1, 0, n1) Q 16 [none, none, none] [mI ((-1))] w) : Wp (Cw d) cd_Meeting_unitFor (1, 0, n1) Q 11 [none, none, none] [] w :=
  Wp.s (Wp.s h)
theorem Meeting_unitFor_112_b13 {d : Nat} {n1 : Int} {Q : MV → Wd → Prop} {x2 : Int} {w : Wd} (h : Wp (Cw d) cd_Meeting_unitFor (1, 0, n1) Q 16 [none, none, none] [mI (w32 (16 - x2))] w) : Wp (Cw d) cd_Meeting_unitFor (1, 0, n1) Q 13 [none, none, mI x2] [] w :=
  Wp.s (Wp.s (Wp.s (Wp.fgd (leA.f (leA.f (leA.f leA.e))) h)))
theorem Meeting_unitFor_112_b16 {d : Nat} {n1 : Int} {Q : MV → Wd → Prop} {s0 : Int} {w : Wd} (h : Q (mI s0) w) : Wp (Cw d) cd_Meeting_unitFor (1, 0, n1) Q 16 [none, none, none] [mI s0] w :=
  Wp.s h
theorem Meeting_lookAround_112_b0 {d : Nat} {n1 : Int} {Q : MV → Wd → Prop} {w : Wd} (h : Wp (Cw d) cd_Meeting_lookAround (0, 0, n1) Q 7 [mR 112, mI 0, none] [] (ub w 129 0.toNat 0)) : Wp (Cw d) cd_Meeting_lookAround (0, 0, n1) Q 0 [mR 112, none, none] [] w :=
  Wp.s (Wp.s (Wp.s (Wp.s (Wp.s ⟨(by decide), Wp.s (Wp.s h)⟩))))
theorem Meeting_lookAround_112_b7 {d : Nat} {n1 : Int} {Q : MV → Wd → Prop} {x1 : Int} {w : Wd} (h1 : w 4 11 ≤ x1 → Wp (Cw d) cd_Meeting_lookAround (0, 0, n1) Q 40 [none, none, none] [] w) (h2 : ¬ (w 4 11 ≤ x1) → Wp (Cw d) cd_Meeting_lookAround (0, 0, n1) Q 12 [mR 112, mI x1, none] [] w) : Wp (Cw d) cd_Meeting_lookAround (0, 0, n1) Q 7 [mR 112, mI x1, none] [] w :=
  Wp.s (Wp.s (Wp.s (Wp.s (Wp.s ⟨fun q => Wp.fgd (leA.f (leA.f (leA.f leA.e))) (h1 q), fun q => h2 q⟩))))
theorem Meeting_lookAround_112_b12 {d : Nat} {n1 : Int} {Q : MV → Wd → Prop} {x1 : Int} {w : Wd} (h : Wp (Cw d) cd_Meeting_lookAround (0, 0, n1) Q 14 [mR 112, mI x1, mI 0] [] w) : Wp (Cw d) cd_Meeting_lookAround (0, 0, n1) Q 12 [mR 112, mI x1, none] [] w :=
  Wp.s (Wp.s h)
theorem Meeting_lookAround_112_b14 {d : Nat} {n1 : Int} {Q : MV → Wd → Prop} {x1 x2 : Int} {w : Wd} (h1 : ishl 1 x1 ≤ x2 → Wp (Cw d) cd_Meeting_lookAround (0, 0, n1) Q 38 [mR 112, mI x1, none] [] w) (h2 : ¬ (ishl 1 x1 ≤ x2) → Wp (Cw d) cd_Meeting_lookAround (0, 0, n1) Q 19 [mR 112, mI x1, mI x2] [] w) : Wp (Cw d) cd_Meeting_lookAround (0, 0, n1) Q 14 [mR 112, mI x1, mI x2] [] w :=
  Wp.s (Wp.s (Wp.s (Wp.s (Wp.s ⟨fun q => Wp.fgd (leA.k (leA.k (leA.f leA.e))) (h1 q), fun q => h2 q⟩))))
theorem Meeting_lookAround_112_b19 {d : Nat} {n1 : Int} {Q : MV → Wd → Prop} {x1 x2 : Int} {w : Wd} (g1 : (0 : Int) ≤ x2 ∧ x2 < 256) (g2 : (0 : Int) ≤ x1 ∧ x1 < 8) (g3 : (0 : Int) ≤ ior x2 (ishl 1 x1) ∧ ior x2 (ishl 1 x1) < 256) (h : Wp (Cw d) cd_Meeting_lookAround (0, 0, n1) Q 14 [mR 112, mI x1, mI (w32 (x2 + 1))] [] (ub w 129 (ior x2 (ishl 1 x1)).toNat (ior (w 129 x2.toNat) (w 128 x1.toNat)))) : Wp (Cw d) cd_Meeting_lookAround (0, 0, n1) Q 19 [mR 112, mI x1, mI x2] [] w :=
  Wp.s (Wp.s (Wp.s (Wp.s (Wp.s (Wp.s (Wp.s (Wp.s (Wp.s (Wp.s (Wp.s ⟨g1, Wp.s (Wp.s (Wp.s (Wp.s ⟨g2, Wp.s (Wp.s ⟨g3, Wp.s (Wp.s h)⟩)⟩)))⟩))))))))))
theorem Meeting_lookAround_112_b38 {d : Nat} {n1 : Int} {Q : MV → Wd → Prop} {x1 : Int} {w : Wd} (h : Wp (Cw d) cd_Meeting_lookAround (0, 0, n1) Q 7 [mR 112, mI (w32 (x1 + 1)), none] [] w) : Wp (Cw d) cd_Meeting_lookAround (0, 0, n1) Q 38 [mR 112, mI x1, none] [] w :=
  Wp.s (Wp.s h)
theorem Meeting_lookAround_112_b40 {d : Nat} {n1 : Int} {Q : MV → Wd → Prop} {w : Wd} (h : Q none w) : Wp (Cw d) cd_Meeting_lookAround (0, 0, n1) Q 40 [none, none, none] [] w :=
  Wp.s h
theorem Meeting_find_112_b0 {d : Nat} {n1 : Int} {Q : MV → Wd → Prop} {w : Wd} (h : Cw d 58 [mR 113] w (fun _ w' => Wp (Cw d) cd_Meeting_find (0, 0, n1) Q 3 [mR 112] [] w')) : Wp (Cw d) cd_Meeting_find (0, 0, n1) Q 0 [mR 112] [] w :=
  Wp.s (Wp.s (Wp.s h))
theorem Meeting_find_112_b3 {d : Nat} {n1 : Int} {Q : MV → Wd → Prop} {w : Wd} (h : Cw d 69 [mR 112, mI 0] w (fun _ w' => Wp (Cw d) cd_Meeting_find (0, 0, n1) Q 6 [none] [] w')) : Wp (Cw d) cd_Meeting_find (0, 0, n1) Q 3 [mR 112] [] w :=
  Wp.s (Wp.s (Wp.s (Cw_mono _ _ _ _ _ _ (fun r w' q => Wp.fgd (leA.f leA.e) q) h)))
theorem Meeting_find_112_b6 {d : Nat} {n1 : Int} {Q : MV → Wd → Prop} {w : Wd} (h : Q none w) : Wp (Cw d) cd_Meeting_find (0, 0, n1) Q 6 [none] [] w :=
  Wp.s h
theorem Village_wantsOf_4_b0 {d : Nat} {n1 : Int} {Q : MV → Wd → Prop} {x1 : Int} {w : Wd} (h : Wp (Cw d) cd_Village_wantsOf (1, 0, n1) Q 4 [mR 4, mI x1, mI 0, mI 0] [] w) : Wp (Cw d) cd_Village_wantsOf (1, 0, n1) Q 0 [mR 4, mI x1, none, none] [] w :=
  Wp.s (Wp.s (Wp.s (Wp.s h)))
theorem Village_wantsOf_4_b4 {d : Nat} {n1 : Int} {Q : MV → Wd → Prop} {x1 x2 x3 : Int} {w : Wd} (h1 : w 4 11 ≤ x3 → Wp (Cw d) cd_Village_wantsOf (1, 0, n1) Q 25 [none, none, mI x2, none] [] w) (h2 : ¬ (w 4 11 ≤ x3) → Wp (Cw d) cd_Village_wantsOf (1, 0, n1) Q 8 [mR 4, mI x1, mI x2, mI x3] [] w) : Wp (Cw d) cd_Village_wantsOf (1, 0, n1) Q 4 [mR 4, mI x1, mI x2, mI x3] [] w :=
  Wp.s (Wp.s (Wp.s (Wp.s ⟨fun q => Wp.fgd (leA.f (leA.f (leA.k (leA.f leA.e)))) (h1 q), fun q => h2 q⟩)))
theorem Village_wantsOf_4_b8 {d : Nat} {n1 : Int} {Q : MV → Wd → Prop} {x1 x2 x3 : Int} {w : Wd} (h : Cw d 63 [mR 4, mI x3, mI 0] w (fun r w' => Wp (Cw d) cd_Village_wantsOf (1, 0, n1) Q 14 [mR 4, mI x1, none, mI x3] [r, mI x1, mI x2] w')) : Wp (Cw d) cd_Village_wantsOf (1, 0, n1) Q 8 [mR 4, mI x1, mI x2, mI x3] [] w :=
  Wp.s (Wp.s (Wp.s (Wp.s (Wp.s (Wp.s (Cw_mono _ _ _ _ _ _ (fun r w' q => Wp.fgd (leA.k (leA.k (leA.f (leA.k leA.e)))) q) h))))))
theorem Village_wantsOf_4_b14 {d : Nat} {n1 : Int} {Q : MV → Wd → Prop} {x1 x3 s0 s1 s2 : Int} {w : Wd} (h : Cw d 66 [mI s1, mI s0] w (fun r w' => Wp (Cw d) cd_Village_wantsOf (1, 0, n1) Q 15 [mR 4, mI x1, none, mI x3] [r, mI s2] w')) : Wp (Cw d) cd_Village_wantsOf (1, 0, n1) Q 14 [mR 4, mI x1, none, mI x3] [mI s0, mI s1, mI s2] w :=
  Wp.s h
theorem Village_wantsOf_4_b15 {d : Nat} {n1 : Int} {Q : MV → Wd → Prop} {x1 x3 s0 s1 : Int} {w : Wd} (h1 : s0 = 0 → Wp (Cw d) cd_Village_wantsOf (1, 0, n1) Q 20 [mR 4, mI x1, none, mI x3] [mI s1] w) (h2 : ¬ (s0 = 0) → Wp (Cw d) cd_Village_wantsOf (1, 0, n1) Q 16 [mR 4, mI x1, none, mI x3] [mI s1] w) : Wp (Cw d) cd_Village_wantsOf (1, 0, n1) Q 15 [mR 4, mI x1, none, mI x3] [mI s0, mI s1] w :=
  Wp.s ⟨fun q => h1 q, fun q => h2 q⟩
theorem Village_wantsOf_4_b16 {d : Nat} {n1 : Int} {Q : MV → Wd → Prop} {x1 x3 s0 : Int} {w : Wd} (h : Wp (Cw d) cd_Village_wantsOf (1, 0, n1) Q 21 [mR 4, mI x1, none, mI x3] [mI (ishl 1 x3), mI s0] w) : Wp (Cw d) cd_Village_wantsOf (1, 0, n1) Q 16 [mR 4, mI x1, none, mI x3] [mI s0] w :=
  Wp.s (Wp.s (Wp.s (Wp.s h)))
theorem Village_wantsOf_4_b20 {d : Nat} {n1 : Int} {Q : MV → Wd → Prop} {x1 x3 s0 : Int} {w : Wd} (h : Wp (Cw d) cd_Village_wantsOf (1, 0, n1) Q 21 [mR 4, mI x1, none, mI x3] [mI 0, mI s0] w) : Wp (Cw d) cd_Village_wantsOf (1, 0, n1) Q 20 [mR 4, mI x1, none, mI x3] [mI s0] w :=
  Wp.s h
theorem Village_wantsOf_4_b21 {d : Nat} {n1 : Int} {Q : MV → Wd → Prop} {x1 x3 s0 s1 : Int} {w : Wd} (h : Wp (Cw d) cd_Village_wantsOf (1, 0, n1) Q 4 [mR 4, mI x1, mI (ior s1 s0), mI (w32 (x3 + 1))] [] w) : Wp (Cw d) cd_Village_wantsOf (1, 0, n1) Q 21 [mR 4, mI x1, none, mI x3] [mI s0, mI s1] w :=
  Wp.s (Wp.s (Wp.s (Wp.s h)))
theorem Village_wantsOf_4_b25 {d : Nat} {n1 : Int} {Q : MV → Wd → Prop} {x2 : Int} {w : Wd} (h : Q (mI x2) w) : Wp (Cw d) cd_Village_wantsOf (1, 0, n1) Q 25 [none, none, mI x2, none] [] w :=
  Wp.s (Wp.s h)
theorem Meeting_taken_112_b0 {d : Nat} {n1 : Int} {Q : MV → Wd → Prop} {x1 x2 : Int} {w : Wd} (g1 : (0 : Int) ≤ w32 ((w32 (x1 * 8)) + x2) ∧ w32 ((w32 (x1 * 8)) + x2) < 128) (h : Q (mL (w 127 (w32 ((w32 (x1 * 8)) + x2)).toNat)) w) : Wp (Cw d) cd_Meeting_taken (3, 0, n1) Q 0 [mR 112, mI x1, mI x2] [] w :=
  Wp.s (Wp.s (Wp.s (Wp.s (Wp.s (Wp.s (Wp.s (Wp.s ⟨g1, Wp.s h⟩)))))))
theorem Ways_pains_113_b0 {d : Nat} {n1 : Int} {Q : MV → Wd → Prop} {x1 : Int} {w : Wd} (h : Cw d 80 [mL x1] w (fun r w' => Wp (Cw d) cd_Ways_pains (1, 0, n1) Q 2 [mR 113, none, none, none, none, none] [r] w')) : Wp (Cw d) cd_Ways_pains (1, 0, n1) Q 0 [mR 113, mL x1, none, none, none, none] [] w :=
  Wp.s (Wp.s (Cw_mono _ _ _ _ _ _ (fun r w' q => Wp.fgd (leA.k (leA.f (leA.f (leA.f (leA.f (leA.f leA.e)))))) q) h))
theorem Ways_pains_113_b2 {d : Nat} {n1 : Int} {Q : MV → Wd → Prop} {s0 : Int} {w : Wd} (h : Wp (Cw d) cd_Ways_pains (1, 0, n1) Q 7 [mR 113, none, none, mI s0, mI 0, mI 1] [] w) : Wp (Cw d) cd_Ways_pains (1, 0, n1) Q 2 [mR 113, none, none, none, none, none] [mI s0] w :=
  Wp.s (Wp.s (Wp.s (Wp.s (Wp.s h))))
theorem Ways_pains_113_b7 {d : Nat} {n1 : Int} {Q : MV → Wd → Prop} {x3 x4 x5 : Int} {w : Wd} (h1 : w 114 1 ≤ x5 → Wp (Cw d) cd_Ways_pains (1, 0, n1) Q 38 [none, none, none, none, mI x4, none] [] w) (h2 : ¬ (w 114 1 ≤ x5) → Wp (Cw d) cd_Ways_pains (1, 0, n1) Q 12 [mR 113, none, none, mI x3, mI x4, mI x5] [] w) : Wp (Cw d) cd_Ways_pains (1, 0, n1) Q 7 [mR 113, none, none, mI x3, mI x4, mI x5] [] w :=
  Wp.s (Wp.s (Wp.s (Wp.s (Wp.s ⟨fun q => Wp.fgd (leA.f (leA.f (leA.f (leA.f (leA.k (leA.f leA.e)))))) (h1 q), fun q => h2 q⟩))))
theorem Ways_pains_113_b12 {d : Nat} {n1 : Int} {Q : MV → Wd → Prop} {x3 x4 x5 : Int} {w : Wd} (h : Cw d 82 [mI x3, mI (w32 (x5 - 1)), mI (w 114 1)] w (fun r w' => Wp (Cw d) cd_Ways_pains (1, 0, n1) Q 24 [mR 113, none, none, mI x3, none, mI x5] [r, mR 116, mI x4] w')) : Wp (Cw d) cd_Ways_pains (1, 0, n1) Q 12 [mR 113, none, none, mI x3, mI x4, mI x5] [] w :=
  Wp.s (Wp.s (Wp.s (Wp.s (Wp.s (Wp.s (Wp.s (Wp.s (Wp.s (Wp.s (Wp.s (Wp.s (Cw_mono _ _ _ _ _ _ (fun r w' q => Wp.fgd (leA.k (leA.f (leA.f (leA.k (leA.f (leA.k leA.e)))))) q) h))))))))))))
theorem Ways_pains_113_b24 {d : Nat} {n1 : Int} {Q : MV → Wd → Prop} {x3 x5 s0 s2 : Int} {w : Wd} (h : Cw d 82 [mI x3, mI x5, mI (w 114 1)] w (fun r w' => Wp (Cw d) cd_Ways_pains (1, 0, n1) Q 32 [mR 113, none, none, mI x3, none, mI x5] [r, mI (w32 (s0 * 8)), mR 116, mI s2] w')) : Wp (Cw d) cd_Ways_pains (1, 0, n1) Q 24 [mR 113, none, none, mI x3, none, mI x5] [mI s0, mR 116, mI s2] w :=
  Wp.s (Wp.s (Wp.s (Wp.s (Wp.s (Wp.s (Wp.s (Wp.s h)))))))
theorem Ways_pains_113_b32 {d : Nat} {n1 : Int} {Q : MV → Wd → Prop} {x3 x5 s0 s1 s3 : Int} {w : Wd} (g1 : (0 : Int) ≤ w32 (s1 + s0) ∧ w32 (s1 + s0) < 64) (h : Wp (Cw d) cd_Ways_pains (1, 0, n1) Q 7 [mR 113, none, none, mI x3, mI (w32 (s3 + (w 116 (w32 (s1 + s0)).toNat))), mI (w32 (x5 + 1))] [] w) : Wp (Cw d) cd_Ways_pains (1, 0, n1) Q 32 [mR 113, none, none, mI x3, none, mI x5] [mI s0, mI s1, mR 116, mI s3] w :=
  Wp.s (Wp.s ⟨g1, Wp.s (Wp.s (Wp.s (Wp.s h)))⟩)
theorem Ways_pains_113_b38 {d : Nat} {n1 : Int} {Q : MV → Wd → Prop} {x4 : Int} {w : Wd} (h : Q (mI x4) w) : Wp (Cw d) cd_Ways_pains (1, 0, n1) Q 38 [none, none, none, none, mI x4, none] [] w :=
  Wp.s (Wp.s h)
theorem Book_sort_36_b0 {d : Nat} {n1 : Int} {Q : MV → Wd → Prop} {x1 : Int} {w : Wd} (h : Wp (Cw d) cd_Book_sort (1, 0, n1) Q 4 [mR 36, mI x1, mI 0, mI 0, none] [] w) : Wp (Cw d) cd_Book_sort (1, 0, n1) Q 0 [mR 36, mI x1, none, none, none] [] w :=
  Wp.s (Wp.s (Wp.s (Wp.s h)))
theorem Book_sort_36_b4 {d : Nat} {n1 : Int} {Q : MV → Wd → Prop} {x1 x2 x3 : Int} {w : Wd} (h1 : w 36 0 ≤ x3 → Wp (Cw d) cd_Book_sort (1, 0, n1) Q 70 [none, none, mI x2, none, none] [] w) (h2 : ¬ (w 36 0 ≤ x3) → Wp (Cw d) cd_Book_sort (1, 0, n1) Q 8 [mR 36, mI x1, mI x2, mI x3, none] [] w) : Wp (Cw d) cd_Book_sort (1, 0, n1) Q 4 [mR 36, mI x1, mI x2, mI x3, none] [] w :=
  Wp.s (Wp.s (Wp.s (Wp.s ⟨fun q => Wp.fgd (leA.f (leA.f (leA.k (leA.f (leA.f leA.e))))) (h1 q), fun q => h2 q⟩)))
theorem Book_sort_36_b8 {d : Nat} {n1 : Int} {Q : MV → Wd → Prop} {x1 x2 x3 : Int} {w : Wd} (h1 : 8 ≤ x2 → Wp (Cw d) cd_Book_sort (1, 0, n1) Q 70 [none, none, mI x2, none, none] [] w) (h2 : ¬ (8 ≤ x2) → Wp (Cw d) cd_Book_sort (1, 0, n1) Q 11 [mR 36, mI x1, mI x2, mI x3, none] [] w) : Wp (Cw d) cd_Book_sort (1, 0, n1) Q 8 [mR 36, mI x1, mI x2, mI x3, none] [] w :=
  Wp.s (Wp.s (Wp.s ⟨fun q => Wp.fgd (leA.f (leA.f (leA.k (leA.f (leA.f leA.e))))) (h1 q), fun q => h2 q⟩))
theorem Book_sort_36_b11 {d : Nat} {n1 : Int} {Q : MV → Wd → Prop} {x1 x2 x3 : Int} {w : Wd} (g1 : (0 : Int) ≤ x3 ∧ x3 < 40) (h1 : ¬ w 37 x3.toNat = x1 → Wp (Cw d) cd_Book_sort (1, 0, n1) Q 68 [mR 36, mI x1, mI x2, mI x3, none] [] w) (h2 : ¬ (¬ w 37 x3.toNat = x1) → Wp (Cw d) cd_Book_sort (1, 0, n1) Q 17 [mR 36, mI x1, mI x2, mI x3, none] [] w) : Wp (Cw d) cd_Book_sort (1, 0, n1) Q 11 [mR 36, mI x1, mI x2, mI x3, none] [] w :=
  Wp.s (Wp.s (Wp.s (Wp.s ⟨g1, Wp.s (Wp.s ⟨fun q => h1 q, fun q => h2 q⟩)⟩)))
theorem Book_sort_36_b17 {d : Nat} {n1 : Int} {Q : MV → Wd → Prop} {x1 x2 x3 : Int} {w : Wd} (h : Wp (Cw d) cd_Book_sort (1, 0, n1) Q 19 [mR 36, mI x1, mI x2, mI x3, mI x2] [] w) : Wp (Cw d) cd_Book_sort (1, 0, n1) Q 17 [mR 36, mI x1, mI x2, mI x3, none] [] w :=
  Wp.s (Wp.s h)
theorem Book_sort_36_b19 {d : Nat} {n1 : Int} {Q : MV → Wd → Prop} {x1 x2 x3 x4 : Int} {w : Wd} (h1 : x4 ≤ 0 → Wp (Cw d) cd_Book_sort (1, 0, n1) Q 57 [mR 36, mI x1, mI x2, mI x3, mI x4] [] w) (h2 : ¬ (x4 ≤ 0) → Wp (Cw d) cd_Book_sort (1, 0, n1) Q 21 [mR 36, mI x1, mI x2, mI x3, mI x4] [] w) : Wp (Cw d) cd_Book_sort (1, 0, n1) Q 19 [mR 36, mI x1, mI x2, mI x3, mI x4] [] w :=
  Wp.s (Wp.s ⟨fun q => h1 q, fun q => h2 q⟩)
theorem Book_sort_36_b21 {d : Nat} {n1 : Int} {Q : MV → Wd → Prop} {x1 x2 x3 x4 : Int} {w : Wd} (g1 : (0 : Int) ≤ w32 (x4 - 1) ∧ w32 (x4 - 1) < 8) (g2 : (0 : Int) ≤ w 41 (w32 (x4 - 1)).toNat ∧ w 41 (w32 (x4 - 1)).toNat < 40) (g3 : (0 : Int) ≤ x3 ∧ x3 < 40) (h1 : w 40 (w 41 (w32 (x4 - 1)).toNat).toNat ≤ w 40 x3.toNat → Wp (Cw d) cd_Book_sort (1, 0, n1) Q 57 [mR 36, mI x1, mI x2, mI x3, mI x4] [] w) (h2 : ¬ (w 40 (w 41 (w32 (x4 - 1)).toNat).toNat ≤ w 40 x3.toNat) → Wp (Cw d) cd_Book_sort (1, 0, n1) Q 35 [mR 36, mI x1, mI x2, mI x3, mI x4] [] w) : Wp (Cw d) cd_Book_sort (1, 0, n1) Q 21 [mR 36, mI x1, mI x2, mI x3, mI x4] [] w :=
  Wp.s (Wp.s (Wp.s (Wp.s (Wp.s (Wp.s (Wp.s (Wp.s ⟨g1, Wp.s ⟨g2, Wp.s (Wp.s (Wp.s (Wp.s ⟨g3, Wp.s ⟨fun q => h1 q, fun q => h2 q⟩⟩)))⟩⟩)))))))
theorem Book_sort_36_b35 {d : Nat} {n1 : Int} {Q : MV → Wd → Prop} {x1 x2 x3 x4 : Int} {w : Wd} (g1 : (0 : Int) ≤ w32 (x4 - 1) ∧ w32 (x4 - 1) < 8) (g2 : (0 : Int) ≤ x4 ∧ x4 < 8) (g3 : (0 : Int) ≤ w32 (x4 - 1) ∧ w32 (x4 - 1) < 8) (g4 : (0 : Int) ≤ x4 ∧ x4 < 8) (h : Wp (Cw d) cd_Book_sort (1, 0, n1) Q 19 [mR 36, mI x1, mI x2, mI x3, mI (w32 (x4 + (-1)))] [] (ub (ub w 41 x4.toNat (w 41 (w32 (x4 - 1)).toNat)) 42 x4.toNat (w 42 (w32 (x4 - 1)).toNat))) : Wp (Cw d) cd_Book_sort (1, 0, n1) Q 35 [mR 36, mI x1, mI x2, mI x3, mI x4] [] w :=
  Wp.s (Wp.s (Wp.s (Wp.s (Wp.s (Wp.s (Wp.s (Wp.s (Wp.s ⟨g1, Wp.s ⟨g2, Wp.s (Wp.s (Wp.s (Wp.s (Wp.s (Wp.s (Wp.s (Wp.s (Wp.s ⟨g3, Wp.s ⟨g4, Wp.s (Wp.s h)⟩⟩))))))))⟩⟩))))))))
theorem Book_sort_36_b57 {d : Nat} {n1 : Int} {Q : MV → Wd → Prop} {x1 x2 x3 x4 : Int} {w : Wd} (g1 : (0 : Int) ≤ x4 ∧ x4 < 8) (g2 : (0 : Int) ≤ x4 ∧ x4 < 8) (h : Wp (Cw d) cd_Book_sort (1, 0, n1) Q 68 [mR 36, mI x1, mI (w32 (x2 + 1)), mI x3, none] [] (ub (ub w 41 x4.toNat x3) 42 x4.toNat x2)) : Wp (Cw d) cd_Book_sort (1, 0, n1) Q 57 [mR 36, mI x1, mI x2, mI x3, mI x4] [] w :=
  Wp.s (Wp.s (Wp.s (Wp.s (Wp.s ⟨g1, Wp.s (Wp.s (Wp.s (Wp.s (Wp.s ⟨g2, Wp.s (Wp.fgd (leA.k (leA.k (leA.k (leA.k (leA.f leA.e))))) h)⟩))))⟩))))
theorem Book_sort_36_b68 {d : Nat} {n1 : Int} {Q : MV → Wd → Prop} {x1 x2 x3 : Int} {w : Wd} (h : Wp (Cw d) cd_Book_sort (1, 0, n1) Q 4 [mR 36, mI x1, mI x2, mI (w32 (x3 + 1)), none] [] w) : Wp (Cw d) cd_Book_sort (1, 0, n1) Q 68 [mR 36, mI x1, mI x2, mI x3, none] [] w :=
  Wp.s (Wp.s h)
theorem Book_sort_36_b70 {d : Nat} {n1 : Int} {Q : MV → Wd → Prop} {x2 : Int} {w : Wd} (h : Q (mI x2) w) : Wp (Cw d) cd_Book_sort (1, 0, n1) Q 70 [none, none, mI x2, none, none] [] w :=
  Wp.s (Wp.s h)
theorem Book_areTrue_36_4_b0 {d : Nat} {n1 : Int} {Q : MV → Wd → Prop} {x1 x2 x3 : Int} {w : Wd} (h : Wp (Cw d) cd_Book_areTrue (2, 0, n1) Q 4 [mR 36, mI x1, mI x2, mI x3, mR 4, mI ((-1)), mI 0, none, none] [] w) : Wp (Cw d) cd_Book_areTrue (2, 0, n1) Q 0 [mR 36, mI x1, mI x2, mI x3, mR 4, none, none, none, none] [] w :=
  Wp.s (Wp.s (Wp.s (Wp.s h)))
theorem Book_areTrue_36_4_b4 {d : Nat} {n1 : Int} {Q : MV → Wd → Prop} {x1 x2 x3 x5 x6 : Int} {w : Wd} (h1 : x2 ≤ x6 → Wp (Cw d) cd_Book_areTrue (2, 0, n1) Q 61 [none, none, none, none, none, none, none, none, none] [] w) (h2 : ¬ (x2 ≤ x6) → Wp (Cw d) cd_Book_areTrue (2, 0, n1) Q 7 [mR 36, mI x1, mI x2, mI x3, mR 4, mI x5, mI x6, none, none] [] w) : Wp (Cw d) cd_Book_areTrue (2, 0, n1) Q 4 [mR 36, mI x1, mI x2, mI x3, mR 4, mI x5, mI x6, none, none] [] w :=
  Wp.s (Wp.s (Wp.s ⟨fun q => Wp.fgd (leA.f (leA.f (leA.f (leA.f (leA.f (leA.f (leA.f (leA.f (leA.f leA.e))))))))) (h1 q), fun q => h2 q⟩))
theorem Book_areTrue_36_4_b7 {d : Nat} {n1 : Int} {Q : MV → Wd → Prop} {x1 x2 x3 x5 x6 : Int} {w : Wd} (g1 : (0 : Int) ≤ x6 ∧ x6 < 8) (h : Cw d 66 [mI x3, mI (w 42 x6.toNat)] w (fun r w' => Wp (Cw d) cd_Book_areTrue (2, 0, n1) Q 13 [mR 36, mI x1, mI x2, mI x3, mR 4, mI x5, mI x6, none, none] [r] w')) : Wp (Cw d) cd_Book_areTrue (2, 0, n1) Q 7 [mR 36, mI x1, mI x2, mI x3, mR 4, mI x5, mI x6, none, none] [] w :=
  Wp.s (Wp.s (Wp.s (Wp.s (Wp.s ⟨g1, Wp.s h⟩))))
theorem Book_areTrue_36_4_b13 {d : Nat} {n1 : Int} {Q : MV → Wd → Prop} {x1 x2 x3 x5 x6 s0 : Int} {w : Wd} (h1 : ¬ s0 = 0 → Wp (Cw d) cd_Book_areTrue (2, 0, n1) Q 59 [mR 36, mI x1, mI x2, mI x3, mR 4, mI x5, mI x6, none, none] [] w) (h2 : ¬ (¬ s0 = 0) → Wp (Cw d) cd_Book_areTrue (2, 0, n1) Q 14 [mR 36, mI x1, mI x2, mI x3, mR 4, mI x5, mI x6, none, none] [] w) : Wp (Cw d) cd_Book_areTrue (2, 0, n1) Q 13 [mR 36, mI x1, mI x2, mI x3, mR 4, mI x5, mI x6, none, none] [mI s0] w :=
  Wp.s ⟨fun q => h1 q, fun q => h2 q⟩
theorem Book_areTrue_36_4_b14 {d : Nat} {n1 : Int} {Q : MV → Wd → Prop} {x1 x2 x3 x5 x6 : Int} {w : Wd} (g1 : (0 : Int) ≤ x6 ∧ x6 < 8) (h1 : ¬ x5 = (-1) → Wp (Cw d) cd_Book_areTrue (2, 0, n1) Q 31 [mR 36, mI x1, mI x2, mI x3, mR 4, mI x5, mI x6, mI (w 41 x6.toNat), none] [] w) (h2 : ¬ (¬ x5 = (-1)) → Wp (Cw d) cd_Book_areTrue (2, 0, n1) Q 22 [mR 36, mI x1, mI x2, mI x3, mR 4, none, mI x6, mI (w 41 x6.toNat), none] [] w) : Wp (Cw d) cd_Book_areTrue (2, 0, n1) Q 14 [mR 36, mI x1, mI x2, mI x3, mR 4, mI x5, mI x6, none, none] [] w :=
  Wp.s (Wp.s (Wp.s (Wp.s ⟨g1, Wp.s (Wp.s (Wp.s (Wp.s ⟨fun q => h1 q, fun q => Wp.fgd (leA.k (leA.k (leA.k (leA.k (leA.k (leA.f (leA.k (leA.k (leA.f leA.e))))))))) (h2 q)⟩)))⟩)))
theorem Book_areTrue_36_4_b22 {d : Nat} {n1 : Int} {Q : MV → Wd → Prop} {x1 x2 x3 x6 x7 : Int} {w : Wd} (h : Cw d 60 [mR 4, mI x1] w (fun r w' => Wp (Cw d) cd_Book_areTrue (2, 0, n1) Q 25 [mR 36, mI x1, mI x2, mI x3, mR 4, none, mI x6, mI x7, none] [r] w')) : Wp (Cw d) cd_Book_areTrue (2, 0, n1) Q 22 [mR 36, mI x1, mI x2, mI x3, mR 4, none, mI x6, mI x7, none] [] w :=
  Wp.s (Wp.s (Wp.s h))
theorem Book_areTrue_36_4_b25 {d : Nat} {n1 : Int} {Q : MV → Wd → Prop} {x1 x2 x3 x6 x7 s0 : Int} {w : Wd} (g1 : (0 : Int) ≤ x7 ∧ x7 < 40) (h : Cw d 66 [mI s0, mI (w 38 x7.toNat)] w (fun r w' => Wp (Cw d) cd_Book_areTrue (2, 0, n1) Q 30 [mR 36, mI x1, mI x2, mI x3, mR 4, none, mI x6, mI x7, none] [r] w')) : Wp (Cw d) cd_Book_areTrue (2, 0, n1) Q 25 [mR 36, mI x1, mI x2, mI x3, mR 4, none, mI x6, mI x7, none] [mI s0] w :=
  Wp.s (Wp.s (Wp.s (Wp.s ⟨g1, Wp.s h⟩)))
theorem Book_areTrue_36_4_b30 {d : Nat} {n1 : Int} {Q : MV → Wd → Prop} {x1 x2 x3 x6 x7 s0 : Int} {w : Wd} (h : Wp (Cw d) cd_Book_areTrue (2, 0, n1) Q 40 [mR 36, mI x1, mI x2, mI x3, mR 4, none, mI x6, mI x7, none] [mI s0] w) : Wp (Cw d) cd_Book_areTrue (2, 0, n1) Q 30 [mR 36, mI x1, mI x2, mI x3, mR 4, none, mI x6, mI x7, none] [mI s0] w :=
  Wp.s h
theorem Book_areTrue_36_4_b31 {d : Nat} {n1 : Int} {Q : MV → Wd → Prop} {x1 x2 x3 x5 x6 x7 : Int} {w : Wd} (g1 : (0 : Int) ≤ x7 ∧ x7 < 40) (h1 : ¬ x5 = w 38 x7.toNat → Wp (Cw d) cd_Book_areTrue (2, 0, n1) Q 39 [mR 36, mI x1, mI x2, mI x3, mR 4, none, mI x6, mI x7, none] [] w) (h2 : ¬ (¬ x5 = w 38 x7.toNat) → Wp (Cw d) cd_Book_areTrue (2, 0, n1) Q 37 [mR 36, mI x1, mI x2, mI x3, mR 4, none, mI x6, mI x7, none] [] w) : Wp (Cw d) cd_Book_areTrue (2, 0, n1) Q 31 [mR 36, mI x1, mI x2, mI x3, mR 4, mI x5, mI x6, mI x7, none] [] w :=
  Wp.s (Wp.s (Wp.s (Wp.s (Wp.s ⟨g1, Wp.s ⟨fun q => Wp.fgd (leA.k (leA.k (leA.k (leA.k (leA.k (leA.f (leA.k (leA.k (leA.f leA.e))))))))) (h1 q), fun q => Wp.fgd (leA.k (leA.k (leA.k (leA.k (leA.k (leA.f (leA.k (leA.k (leA.f leA.e))))))))) (h2 q)⟩⟩))))
theorem Book_areTrue_36_4_b37 {d : Nat} {n1 : Int} {Q : MV → Wd → Prop} {x1 x2 x3 x6 x7 : Int} {w : Wd} (h : Wp (Cw d) cd_Book_areTrue (2, 0, n1) Q 40 [mR 36, mI x1, mI x2, mI x3, mR 4, none, mI x6, mI x7, none] [mI 1] w) : Wp (Cw d) cd_Book_areTrue (2, 0, n1) Q 37 [mR 36, mI x1, mI x2, mI x3, mR 4, none, mI x6, mI x7, none] [] w :=
  Wp.s (Wp.s h)
theorem Book_areTrue_36_4_b39 {d : Nat} {n1 : Int} {Q : MV → Wd → Prop} {x1 x2 x3 x6 x7 : Int} {w : Wd} (h : Wp (Cw d) cd_Book_areTrue (2, 0, n1) Q 40 [mR 36, mI x1, mI x2, mI x3, mR 4, none, mI x6, mI x7, none] [mI 0] w) : Wp (Cw d) cd_Book_areTrue (2, 0, n1) Q 39 [mR 36, mI x1, mI x2, mI x3, mR 4, none, mI x6, mI x7, none] [] w :=
  Wp.s h
theorem Book_areTrue_36_4_b40 {d : Nat} {n1 : Int} {Q : MV → Wd → Prop} {x1 x2 x3 x6 x7 s0 : Int} {w : Wd} (h1 : s0 = 0 → Wp (Cw d) cd_Book_areTrue (2, 0, n1) Q 52 [none, none, none, none, none, none, none, none, none] [] w) (h2 : ¬ (s0 = 0) → Wp (Cw d) cd_Book_areTrue (2, 0, n1) Q 43 [mR 36, mI x1, mI x2, mI x3, mR 4, none, mI x6, mI x7, none] [] w) : Wp (Cw d) cd_Book_areTrue (2, 0, n1) Q 40 [mR 36, mI x1, mI x2, mI x3, mR 4, none, mI x6, mI x7, none] [mI s0] w :=
  Wp.s (Wp.s (Wp.s ⟨fun q => Wp.fgd (leA.f (leA.f (leA.f (leA.f (leA.f (leA.f (leA.f (leA.f (leA.f leA.e))))))))) (h1 q), fun q => Wp.fgd (leA.k (leA.k (leA.k (leA.k (leA.k (leA.f (leA.k (leA.k (leA.f leA.e))))))))) (h2 q)⟩))
theorem Book_areTrue_36_4_b43 {d : Nat} {n1 : Int} {Q : MV → Wd → Prop} {x1 x2 x3 x6 x7 : Int} {w : Wd} (g1 : (0 : Int) ≤ x7 ∧ x7 < 40) (h : Cw d 61 [mR 4, mI x1, mI 3] w (fun r w' => Wp (Cw d) cd_Book_areTrue (2, 0, n1) Q 51 [mR 36, mI x1, mI x2, mI x3, mR 4, none, mI x6, mI x7, none] [r, mI (w 40 x7.toNat)] w')) : Wp (Cw d) cd_Book_areTrue (2, 0, n1) Q 43 [mR 36, mI x1, mI x2, mI x3, mR 4, none, mI x6, mI x7, none] [] w :=
  Wp.s (Wp.s (Wp.s (Wp.s ⟨g1, Wp.s (Wp.s (Wp.s (Wp.s h)))⟩)))
theorem Book_areTrue_36_4_b51 {d : Nat} {n1 : Int} {Q : MV → Wd → Prop} {x1 x2 x3 x6 x7 s0 s1 : Int} {w : Wd} (h1 : s0 ≤ s1 → Wp (Cw d) cd_Book_areTrue (2, 0, n1) Q 54 [mR 36, mI x1, mI x2, mI x3, mR 4, none, mI x6, mI x7, none] [] w) (h2 : ¬ (s0 ≤ s1) → Wp (Cw d) cd_Book_areTrue (2, 0, n1) Q 52 [none, none, none, none, none, none, none, none, none] [] w) : Wp (Cw d) cd_Book_areTrue (2, 0, n1) Q 51 [mR 36, mI x1, mI x2, mI x3, mR 4, none, mI x6, mI x7, none] [mI s0, mI s1] w :=
  Wp.s ⟨fun q => h1 q, fun q => Wp.fgd (leA.f (leA.f (leA.f (leA.f (leA.f (leA.f (leA.f (leA.f (leA.f leA.e))))))))) (h2 q)⟩
theorem Book_areTrue_36_4_b52 {d : Nat} {n1 : Int} {Q : MV → Wd → Prop} {w : Wd} (h : Q (mI 0) w) : Wp (Cw d) cd_Book_areTrue (2, 0, n1) Q 52 [none, none, none, none, none, none, none, none, none] [] w :=
  Wp.s (Wp.s ⟨(Or.inl rfl), h⟩)
theorem Book_areTrue_36_4_b54 {d : Nat} {n1 : Int} {Q : MV → Wd → Prop} {x1 x2 x3 x6 x7 : Int} {w : Wd} (g1 : (0 : Int) ≤ x7 ∧ x7 < 40) (h : Wp (Cw d) cd_Book_areTrue (2, 0, n1) Q 59 [mR 36, mI x1, mI x2, mI x3, mR 4, mI (w 39 x7.toNat), mI x6, none, none] [] w) : Wp (Cw d) cd_Book_areTrue (2, 0, n1) Q 54 [mR 36, mI x1, mI x2, mI x3, mR 4, none, mI x6, mI x7, none] [] w :=
  Wp.s (Wp.s (Wp.s (Wp.s ⟨g1, Wp.s (Wp.fgd (leA.k (leA.k (leA.k (leA.k (leA.k (leA.k (leA.k (leA.f (leA.f leA.e))))))))) h)⟩)))
theorem Book_areTrue_36_4_b59 {d : Nat} {n1 : Int} {Q : MV → Wd → Prop} {x1 x2 x3 x5 x6 : Int} {w : Wd} (h : Wp (Cw d) cd_Book_areTrue (2, 0, n1) Q 4 [mR 36, mI x1, mI x2, mI x3, mR 4, mI x5, mI (w32 (x6 + 1)), none, none] [] w) : Wp (Cw d) cd_Book_areTrue (2, 0, n1) Q 59 [mR 36, mI x1, mI x2, mI x3, mR 4, mI x5, mI x6, none, none] [] w :=
  Wp.s (Wp.s h)
theorem Book_areTrue_36_4_b61 {d : Nat} {n1 : Int} {Q : MV → Wd → Prop} {w : Wd} (h : Q (mI 1) w) : Wp (Cw d) cd_Book_areTrue (2, 0, n1) Q 61 [none, none, none, none, none, none, none, none, none] [] w :=
  Wp.s (Wp.s ⟨(Or.inr rfl), h⟩)
theorem M_isFirst_144_b0 {d : Nat} {n1 : Int} {Q : MV → Wd → Prop} {x1 x2 : Int} {w : Wd} (g1 : (0 : Int) ≤ w32 ((w32 (29 + (w32 (5 * x1)))) + 2) ∧ w32 ((w32 (29 + (w32 (5 * x1)))) + 2) < 645) (h1 : w 146 (w32 ((w32 (29 + (w32 (5 * x1)))) + 2)).toNat = x2 → Wp (Cw d) cd_M_isFirst (2, 0, n1) Q 24 [none, none, none] [] w) (h2 : ¬ (w 146 (w32 ((w32 (29 + (w32 (5 * x1)))) + 2)).toNat = x2) → Wp (Cw d) cd_M_isFirst (2, 0, n1) Q 12 [mR 144, mI x1, mI x2] [] w) : Wp (Cw d) cd_M_isFirst (2, 0, n1) Q 0 [mR 144, mI x1, mI x2] [] w :=
  Wp.s (Wp.s (Wp.s (Wp.s (Wp.s (Wp.s (Wp.s (Wp.s (Wp.s (Wp.s ⟨g1, Wp.s (Wp.s ⟨fun q => Wp.fgd (leA.f (leA.f (leA.f leA.e))) (h1 q), fun q => h2 q⟩)⟩)))))))))
theorem M_isFirst_144_b12 {d : Nat} {n1 : Int} {Q : MV → Wd → Prop} {x1 x2 : Int} {w : Wd} (g1 : (0 : Int) ≤ w32 ((w32 (29 + (w32 (5 * x1)))) + 3) ∧ w32 ((w32 (29 + (w32 (5 * x1)))) + 3) < 645) (h1 : ¬ w 146 (w32 ((w32 (29 + (w32 (5 * x1)))) + 3)).toNat = x2 → Wp (Cw d) cd_M_isFirst (2, 0, n1) Q 26 [none, none, none] [] w) (h2 : ¬ (¬ w 146 (w32 ((w32 (29 + (w32 (5 * x1)))) + 3)).toNat = x2) → Wp (Cw d) cd_M_isFirst (2, 0, n1) Q 24 [none, none, none] [] w) : Wp (Cw d) cd_M_isFirst (2, 0, n1) Q 12 [mR 144, mI x1, mI x2] [] w :=
  Wp.s (Wp.s (Wp.s (Wp.s (Wp.s (Wp.s (Wp.s (Wp.s (Wp.s (Wp.s ⟨g1, Wp.s (Wp.s ⟨fun q => Wp.fgd (leA.f (leA.f (leA.f leA.e))) (h1 q), fun q => Wp.fgd (leA.f (leA.f (leA.f leA.e))) (h2 q)⟩)⟩)))))))))
theorem M_isFirst_144_b24 {d : Nat} {n1 : Int} {Q : MV → Wd → Prop} {w : Wd} (h : Wp (Cw d) cd_M_isFirst (2, 0, n1) Q 27 [none, none, none] [mI 1] w) : Wp (Cw d) cd_M_isFirst (2, 0, n1) Q 24 [none, none, none] [] w :=
  Wp.s (Wp.s h)
theorem M_isFirst_144_b26 {d : Nat} {n1 : Int} {Q : MV → Wd → Prop} {w : Wd} (h : Wp (Cw d) cd_M_isFirst (2, 0, n1) Q 27 [none, none, none] [mI 0] w) : Wp (Cw d) cd_M_isFirst (2, 0, n1) Q 26 [none, none, none] [] w :=
  Wp.s h
theorem M_isFirst_144_b27 {d : Nat} {n1 : Int} {Q : MV → Wd → Prop} {s0 : Int} {w : Wd} (g1 : s0 = 0 ∨ s0 = 1) (h : Q (mI s0) w) : Wp (Cw d) cd_M_isFirst (2, 0, n1) Q 27 [none, none, none] [mI s0] w :=
  Wp.s ⟨g1, h⟩
theorem Tokens_isDigit_b0 {d : Nat} {n1 : Int} {Q : MV → Wd → Prop} {x0 : Int} {w : Wd} (h1 : x0 < 48 → Wp (Cw d) cd_Tokens_isDigit (2, 0, n1) Q 8 [none] [] w) (h2 : ¬ (x0 < 48) → Wp (Cw d) cd_Tokens_isDigit (2, 0, n1) Q 3 [mI x0] [] w) : Wp (Cw d) cd_Tokens_isDigit (2, 0, n1) Q 0 [mI x0] [] w :=
  Wp.s (Wp.s (Wp.s ⟨fun q => Wp.fgd (leA.f leA.e) (h1 q), fun q => h2 q⟩))
theorem Tokens_isDigit_b3 {d : Nat} {n1 : Int} {Q : MV → Wd → Prop} {x0 : Int} {w : Wd} (h1 : 57 < x0 → Wp (Cw d) cd_Tokens_isDigit (2, 0, n1) Q 8 [none] [] w) (h2 : ¬ (57 < x0) → Wp (Cw d) cd_Tokens_isDigit (2, 0, n1) Q 6 [none] [] w) : Wp (Cw d) cd_Tokens_isDigit (2, 0, n1) Q 3 [mI x0] [] w :=
  Wp.s (Wp.s (Wp.s ⟨fun q => Wp.fgd (leA.f leA.e) (h1 q), fun q => Wp.fgd (leA.f leA.e) (h2 q)⟩))
theorem Tokens_isDigit_b6 {d : Nat} {n1 : Int} {Q : MV → Wd → Prop} {w : Wd} (h : Wp (Cw d) cd_Tokens_isDigit (2, 0, n1) Q 9 [none] [mI 1] w) : Wp (Cw d) cd_Tokens_isDigit (2, 0, n1) Q 6 [none] [] w :=
  Wp.s (Wp.s h)
theorem Tokens_isDigit_b8 {d : Nat} {n1 : Int} {Q : MV → Wd → Prop} {w : Wd} (h : Wp (Cw d) cd_Tokens_isDigit (2, 0, n1) Q 9 [none] [mI 0] w) : Wp (Cw d) cd_Tokens_isDigit (2, 0, n1) Q 8 [none] [] w :=
  Wp.s h
theorem Tokens_isDigit_b9 {d : Nat} {n1 : Int} {Q : MV → Wd → Prop} {s0 : Int} {w : Wd} (g1 : s0 = 0 ∨ s0 = 1) (h : Q (mI s0) w) : Wp (Cw d) cd_Tokens_isDigit (2, 0, n1) Q 9 [none] [mI s0] w :=
  Wp.s ⟨g1, h⟩
theorem Tokens_isLetter_b0 {d : Nat} {n1 : Int} {Q : MV → Wd → Prop} {x0 : Int} {w : Wd} (h1 : x0 < 97 → Wp (Cw d) cd_Tokens_isLetter (2, 0, n1) Q 8 [none] [] w) (h2 : ¬ (x0 < 97) → Wp (Cw d) cd_Tokens_isLetter (2, 0, n1) Q 3 [mI x0] [] w) : Wp (Cw d) cd_Tokens_isLetter (2, 0, n1) Q 0 [mI x0] [] w :=
  Wp.s (Wp.s (Wp.s ⟨fun q => Wp.fgd (leA.f leA.e) (h1 q), fun q => h2 q⟩))
theorem Tokens_isLetter_b3 {d : Nat} {n1 : Int} {Q : MV → Wd → Prop} {x0 : Int} {w : Wd} (h1 : 122 < x0 → Wp (Cw d) cd_Tokens_isLetter (2, 0, n1) Q 8 [none] [] w) (h2 : ¬ (122 < x0) → Wp (Cw d) cd_Tokens_isLetter (2, 0, n1) Q 6 [none] [] w) : Wp (Cw d) cd_Tokens_isLetter (2, 0, n1) Q 3 [mI x0] [] w :=
  Wp.s (Wp.s (Wp.s ⟨fun q => Wp.fgd (leA.f leA.e) (h1 q), fun q => Wp.fgd (leA.f leA.e) (h2 q)⟩))
theorem Tokens_isLetter_b6 {d : Nat} {n1 : Int} {Q : MV → Wd → Prop} {w : Wd} (h : Wp (Cw d) cd_Tokens_isLetter (2, 0, n1) Q 9 [none] [mI 1] w) : Wp (Cw d) cd_Tokens_isLetter (2, 0, n1) Q 6 [none] [] w :=
  Wp.s (Wp.s h)
theorem Tokens_isLetter_b8 {d : Nat} {n1 : Int} {Q : MV → Wd → Prop} {w : Wd} (h : Wp (Cw d) cd_Tokens_isLetter (2, 0, n1) Q 9 [none] [mI 0] w) : Wp (Cw d) cd_Tokens_isLetter (2, 0, n1) Q 8 [none] [] w :=
  Wp.s h
theorem Tokens_isLetter_b9 {d : Nat} {n1 : Int} {Q : MV → Wd → Prop} {s0 : Int} {w : Wd} (g1 : s0 = 0 ∨ s0 = 1) (h : Q (mI s0) w) : Wp (Cw d) cd_Tokens_isLetter (2, 0, n1) Q 9 [none] [mI s0] w :=
  Wp.s ⟨g1, h⟩
theorem Tokens_takeRun_2_b0 {d : Nat} {n1 : Int} {Q : MV → Wd → Prop} {x1 x2 : Int} {w : Wd} (h1 : ¬ x2 = w32 (x1 - (w 2 7)) → Wp (Cw d) cd_Tokens_takeRun (0, 0, n1) Q 36 [mR 2, mI x1, mI x2, mI (w32 (x1 - (w 2 7))), none] [] w) (h2 : ¬ (¬ x2 = w32 (x1 - (w 2 7))) → Wp (Cw d) cd_Tokens_takeRun (0, 0, n1) Q 8 [mR 2, mI x1, mI x2, mI (w32 (x1 - (w 2 7))), none] [] w) : Wp (Cw d) cd_Tokens_takeRun (0, 0, n1) Q 0 [mR 2, mI x1, mI x2, none, none] [] w :=
  Wp.s (Wp.s (Wp.s (Wp.s (Wp.s (Wp.s (Wp.s (Wp.s ⟨fun q => h1 q, fun q => h2 q⟩)))))))
theorem Tokens_takeRun_2_b8 {d : Nat} {n1 : Int} {Q : MV → Wd → Prop} {x1 x2 x3 : Int} {w : Wd} (h1 : 3 < x3 → Wp (Cw d) cd_Tokens_takeRun (0, 0, n1) Q 36 [mR 2, mI x1, mI x2, mI x3, none] [] w) (h2 : ¬ (3 < x3) → Wp (Cw d) cd_Tokens_takeRun (0, 0, n1) Q 11 [mR 2, mI x1, none, none, none] [] w) : Wp (Cw d) cd_Tokens_takeRun (0, 0, n1) Q 8 [mR 2, mI x1, mI x2, mI x3, none] [] w :=
  Wp.s (Wp.s (Wp.s ⟨fun q => h1 q, fun q => Wp.fgd (leA.k (leA.k (leA.f (leA.f (leA.f leA.e))))) (h2 q)⟩))
theorem Tokens_takeRun_2_b11 {d : Nat} {n1 : Int} {Q : MV → Wd → Prop} {x1 : Int} {w : Wd} (h : Wp (Cw d) cd_Tokens_takeRun (0, 0, n1) Q 17 [mR 2, mI x1, none, none, mI ((up1 (w 2) 5 4) 7)] [] (ub w 2 5 4)) : Wp (Cw d) cd_Tokens_takeRun (0, 0, n1) Q 11 [mR 2, mI x1, none, none, none] [] w :=
  Wp.s (Wp.s (Wp.s (Wp.s (Wp.s (Wp.s h)))))
theorem Tokens_takeRun_2_b17 {d : Nat} {n1 : Int} {Q : MV → Wd → Prop} {x1 x4 : Int} {w : Wd} (h1 : x1 ≤ x4 → Wp (Cw d) cd_Tokens_takeRun (0, 0, n1) Q 35 [none, none, none, none, none] [] w) (h2 : ¬ (x1 ≤ x4) → Wp (Cw d) cd_Tokens_takeRun (0, 0, n1) Q 20 [mR 2, mI x1, none, none, mI x4] [] w) : Wp (Cw d) cd_Tokens_takeRun (0, 0, n1) Q 17 [mR 2, mI x1, none, none, mI x4] [] w :=
  Wp.s (Wp.s (Wp.s ⟨fun q => Wp.fgd (leA.f (leA.f (leA.f (leA.f (leA.f leA.e))))) (h1 q), fun q => h2 q⟩))

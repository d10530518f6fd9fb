theorem Wp.fgd {d : Nat} {cd : List Ent} {pr : Pr} {Q : MV → Wd → Prop} {i : Nat} {l l' s : List MV} {w : Wd} (hle : leA l l') (h : Wp (Cw d) cd pr Q i l s w) : Wp (Cw d) cd pr Q i l' s w := Wp.fg (fun j a w Q Q' => Cw_mono d j a w Q Q') hle h
theorem X_feed_0_b0 {d : Nat} {n1 : Int} {Q : MV → Wd → Prop} {x1 x2 x3 x4 x5 : Int} {w : Wd} (h1 : w32 ((w 0 1) + 20) ≤ 1040 → Wp (Cw d) cd_X_feed (1, 0, n1) Q 8 [mR 0, mI x1, mI x2, mI x3, mI x4, mI x5] [] w) (h2 : ¬ (w32 ((w 0 1) + 20) ≤ 1040) → Wp (Cw d) cd_X_feed (1, 0, n1) Q 6 [none, none, none, none, none, none] [] w) : Wp (Cw d) cd_X_feed (1, 0, n1) Q 0 [mR 0, mI x1, mI x2, mI x3, mI x4, mI x5] [] w :=
  Wp.s (Wp.s (Wp.s (Wp.s (Wp.s (Wp.s ⟨fun q => h1 q, fun q => Wp.fgd (leA.f (leA.f (leA.f (leA.f (leA.f (leA.f leA.e)))))) (h2 q)⟩)))))
theorem X_feed_0_b6 {d : Nat} {n1 : Int} {Q : MV → Wd → Prop} {w : Wd} (h : Q (mI ((-1))) w) : Wp (Cw d) cd_X_feed (1, 0, n1) Q 6 [none, none, none, none, none, none] [] w :=
  Wp.s (Wp.s h)
theorem X_feed_0_b8 {d : Nat} {n1 : Int} {Q : MV → Wd → Prop} {x1 x2 x3 x4 x5 : Int} {w : Wd} (h : Cw d 13 [mR 0, mI x1] w (fun _ w' => Wp (Cw d) cd_X_feed (1, 0, n1) Q 11 [mR 0, none, mI x2, mI x3, mI x4, mI x5] [] w')) : Wp (Cw d) cd_X_feed (1, 0, n1) Q 8 [mR 0, mI x1, mI x2, mI x3, mI x4, mI x5] [] w :=
  Wp.s (Wp.s (Wp.s (Cw_mono _ _ _ _ _ _ (fun r w' q => Wp.fgd (leA.k (leA.f (leA.k (leA.k (leA.k (leA.k leA.e)))))) q) h)))
theorem X_feed_0_b11 {d : Nat} {n1 : Int} {Q : MV → Wd → Prop} {x2 x3 x4 x5 : Int} {w : Wd} (h : Cw d 13 [mR 0, mI x2] w (fun _ w' => Wp (Cw d) cd_X_feed (1, 0, n1) Q 14 [mR 0, none, none, mI x3, mI x4, mI x5] [] w')) : Wp (Cw d) cd_X_feed (1, 0, n1) Q 11 [mR 0, none, mI x2, mI x3, mI x4, mI x5] [] w :=
  Wp.s (Wp.s (Wp.s (Cw_mono _ _ _ _ _ _ (fun r w' q => Wp.fgd (leA.k (leA.f (leA.f (leA.k (leA.k (leA.k leA.e)))))) q) h)))
theorem X_feed_0_b14 {d : Nat} {n1 : Int} {Q : MV → Wd → Prop} {x3 x4 x5 : Int} {w : Wd} (h : Cw d 13 [mR 0, mI x3] w (fun _ w' => Wp (Cw d) cd_X_feed (1, 0, n1) Q 17 [mR 0, none, none, none, mI x4, mI x5] [] w')) : Wp (Cw d) cd_X_feed (1, 0, n1) Q 14 [mR 0, none, none, mI x3, mI x4, mI x5] [] w :=
  Wp.s (Wp.s (Wp.s (Cw_mono _ _ _ _ _ _ (fun r w' q => Wp.fgd (leA.k (leA.f (leA.f (leA.f (leA.k (leA.k leA.e)))))) q) h)))
theorem X_feed_0_b17 {d : Nat} {n1 : Int} {Q : MV → Wd → Prop} {x4 x5 : Int} {w : Wd} (h : Cw d 13 [mR 0, mI x4] w (fun _ w' => Wp (Cw d) cd_X_feed (1, 0, n1) Q 20 [mR 0, none, none, none, none, mI x5] [] w')) : Wp (Cw d) cd_X_feed (1, 0, n1) Q 17 [mR 0, none, none, none, mI x4, mI x5] [] w :=
  Wp.s (Wp.s (Wp.s (Cw_mono _ _ _ _ _ _ (fun r w' q => Wp.fgd (leA.k (leA.f (leA.f (leA.f (leA.f (leA.k leA.e)))))) q) h)))
theorem X_feed_0_b20 {d : Nat} {n1 : Int} {Q : MV → Wd → Prop} {x5 : Int} {w : Wd} (h : Cw d 13 [mR 0, mI x5] w (fun _ w' => Wp (Cw d) cd_X_feed (1, 0, n1) Q 23 [mR 0, none, none, none, none, none] [] w')) : Wp (Cw d) cd_X_feed (1, 0, n1) Q 20 [mR 0, none, none, none, none, mI x5] [] w :=
  Wp.s (Wp.s (Wp.s (Cw_mono _ _ _ _ _ _ (fun r w' q => Wp.fgd (leA.k (leA.f (leA.f (leA.f (leA.f (leA.f leA.e)))))) q) h)))
theorem X_feed_0_b23 {d : Nat} {n1 : Int} {Q : MV → Wd → Prop} {w : Wd} (h : Q (mI (w 0 1)) w) : Wp (Cw d) cd_X_feed (1, 0, n1) Q 23 [mR 0, none, none, none, none, none] [] w :=
  Wp.s (Wp.s (Wp.s h))
theorem M_feed_144_b0 {d : Nat} {n1 : Int} {Q : MV → Wd → Prop} {x1 x2 x3 x4 x5 : Int} {w : Wd} (h1 : w32 (((up1 (w 144) 0 0) 2) + 20) ≤ 1040 → Wp (Cw d) cd_M_feed (1, 0, n1) Q 11 [mR 144, mI x1, mI x2, mI x3, mI x4, mI x5] [] (ub w 144 0 0)) (h2 : ¬ (w32 (((up1 (w 144) 0 0) 2) + 20) ≤ 1040) → Wp (Cw d) cd_M_feed (1, 0, n1) Q 9 [none, none, none, none, none, none] [] (ub w 144 0 0)) : Wp (Cw d) cd_M_feed (1, 0, n1) Q 0 [mR 144, mI x1, mI x2, mI x3, mI x4, mI x5] [] w :=
  Wp.s (Wp.s (Wp.s (Wp.s (Wp.s (Wp.s (Wp.s (Wp.s (Wp.s ⟨fun q => h1 q, fun q => Wp.fgd (leA.f (leA.f (leA.f (leA.f (leA.f (leA.f leA.e)))))) (h2 q)⟩))))))))
theorem M_feed_144_b9 {d : Nat} {n1 : Int} {Q : MV → Wd → Prop} {w : Wd} (h : Q (mI ((-1))) w) : Wp (Cw d) cd_M_feed (1, 0, n1) Q 9 [none, none, none, none, none, none] [] w :=
  Wp.s (Wp.s h)
theorem M_feed_144_b11 {d : Nat} {n1 : Int} {Q : MV → Wd → Prop} {x1 x2 x3 x4 x5 : Int} {w : Wd} (h : Cw d 170 [mR 144, mI x1] w (fun _ w' => Wp (Cw d) cd_M_feed (1, 0, n1) Q 14 [mR 144, none, mI x2, mI x3, mI x4, mI x5] [] w')) : Wp (Cw d) cd_M_feed (1, 0, n1) Q 11 [mR 144, mI x1, mI x2, mI x3, mI x4, mI x5] [] w :=
  Wp.s (Wp.s (Wp.s (Cw_mono _ _ _ _ _ _ (fun r w' q => Wp.fgd (leA.k (leA.f (leA.k (leA.k (leA.k (leA.k leA.e)))))) q) h)))
theorem M_feed_144_b14 {d : Nat} {n1 : Int} {Q : MV → Wd → Prop} {x2 x3 x4 x5 : Int} {w : Wd} (h : Cw d 170 [mR 144, mI x2] w (fun _ w' => Wp (Cw d) cd_M_feed (1, 0, n1) Q 17 [mR 144, none, none, mI x3, mI x4, mI x5] [] w')) : Wp (Cw d) cd_M_feed (1, 0, n1) Q 14 [mR 144, none, mI x2, mI x3, mI x4, mI x5] [] w :=
  Wp.s (Wp.s (Wp.s (Cw_mono _ _ _ _ _ _ (fun r w' q => Wp.fgd (leA.k (leA.f (leA.f (leA.k (leA.k (leA.k leA.e)))))) q) h)))
theorem M_feed_144_b17 {d : Nat} {n1 : Int} {Q : MV → Wd → Prop} {x3 x4 x5 : Int} {w : Wd} (h : Cw d 170 [mR 144, mI x3] w (fun _ w' => Wp (Cw d) cd_M_feed (1, 0, n1) Q 20 [mR 144, none, none, none, mI x4, mI x5] [] w')) : Wp (Cw d) cd_M_feed (1, 0, n1) Q 17 [mR 144, none, none, mI x3, mI x4, mI x5] [] w :=
  Wp.s (Wp.s (Wp.s (Cw_mono _ _ _ _ _ _ (fun r w' q => Wp.fgd (leA.k (leA.f (leA.f (leA.f (leA.k (leA.k leA.e)))))) q) h)))
theorem M_feed_144_b20 {d : Nat} {n1 : Int} {Q : MV → Wd → Prop} {x4 x5 : Int} {w : Wd} (h : Cw d 170 [mR 144, mI x4] w (fun _ w' => Wp (Cw d) cd_M_feed (1, 0, n1) Q 23 [mR 144, none, none, none, none, mI x5] [] w')) : Wp (Cw d) cd_M_feed (1, 0, n1) Q 20 [mR 144, none, none, none, mI x4, mI x5] [] w :=
  Wp.s (Wp.s (Wp.s (Cw_mono _ _ _ _ _ _ (fun r w' q => Wp.fgd (leA.k (leA.f (leA.f (leA.f (leA.f (leA.k leA.e)))))) q) h)))
theorem M_feed_144_b23 {d : Nat} {n1 : Int} {Q : MV → Wd → Prop} {x5 : Int} {w : Wd} (h : Cw d 170 [mR 144, mI x5] w (fun _ w' => Wp (Cw d) cd_M_feed (1, 0, n1) Q 26 [mR 144, none, none, none, none, none] [] w')) : Wp (Cw d) cd_M_feed (1, 0, n1) Q 23 [mR 144, none, none, none, none, mI x5] [] w :=
  Wp.s (Wp.s (Wp.s (Cw_mono _ _ _ _ _ _ (fun r w' q => Wp.fgd (leA.k (leA.f (leA.f (leA.f (leA.f (leA.f leA.e)))))) q) h)))
theorem M_feed_144_b26 {d : Nat} {n1 : Int} {Q : MV → Wd → Prop} {w : Wd} (h : Q (mI (w 144 2)) w) : Wp (Cw d) cd_M_feed (1, 0, n1) Q 26 [mR 144, none, none, none, none, none] [] w :=
  Wp.s (Wp.s (Wp.s h))
theorem X_end_0_b0 {d : Nat} {n1 : Int} {Q : MV → Wd → Prop} {x1 : Int} {w : Wd} (h1 : x1 < 0 → Wp (Cw d) cd_X_end (2, 0, n1) Q 6 [none, none] [] w) (h2 : ¬ (x1 < 0) → Wp (Cw d) cd_X_end (2, 0, n1) Q 2 [mR 0, mI x1] [] w) : Wp (Cw d) cd_X_end (2, 0, n1) Q 0 [mR 0, mI x1] [] w :=
  Wp.s (Wp.s ⟨fun q => Wp.fgd (leA.f (leA.f leA.e)) (h1 q), fun q => h2 q⟩)
theorem X_end_0_b2 {d : Nat} {n1 : Int} {Q : MV → Wd → Prop} {x1 : Int} {w : Wd} (h1 : x1 ≤ w 0 1 → Wp (Cw d) cd_X_end (2, 0, n1) Q 8 [mR 0, mI x1] [] w) (h2 : ¬ (x1 ≤ w 0 1) → Wp (Cw d) cd_X_end (2, 0, n1) Q 6 [none, none] [] w) : Wp (Cw d) cd_X_end (2, 0, n1) Q 2 [mR 0, mI x1] [] w :=
  Wp.s (Wp.s (Wp.s (Wp.s ⟨fun q => h1 q, fun q => Wp.fgd (leA.f (leA.f leA.e)) (h2 q)⟩)))
theorem X_end_0_b6 {d : Nat} {n1 : Int} {Q : MV → Wd → Prop} {w : Wd} (h : Q (mI 0) w) : Wp (Cw d) cd_X_end (2, 0, n1) Q 6 [none, none] [] w :=
  Wp.s (Wp.s ⟨(Or.inl rfl), h⟩)
theorem X_end_0_b8 {d : Nat} {n1 : Int} {Q : MV → Wd → Prop} {x1 : Int} {w : Wd} (h : Q (mI 1) (ub w 0 1 x1)) : Wp (Cw d) cd_X_end (2, 0, n1) Q 8 [mR 0, mI x1] [] w :=
  Wp.s (Wp.s (Wp.s (Wp.s (Wp.s ⟨(Or.inr rfl), h⟩))))
theorem M_end_144_b0 {d : Nat} {n1 : Int} {Q : MV → Wd → Prop} {x1 : Int} {w : Wd} (h1 : x1 < 0 → Wp (Cw d) cd_M_end (2, 0, n1) Q 9 [none, none] [] (ub w 144 0 0)) (h2 : ¬ (x1 < 0) → Wp (Cw d) cd_M_end (2, 0, n1) Q 5 [mR 144, mI x1] [] (ub w 144 0 0)) : Wp (Cw d) cd_M_end (2, 0, n1) Q 0 [mR 144, mI x1] [] w :=
  Wp.s (Wp.s (Wp.s (Wp.s (Wp.s ⟨fun q => Wp.fgd (leA.f (leA.f leA.e)) (h1 q), fun q => h2 q⟩))))
theorem M_end_144_b5 {d : Nat} {n1 : Int} {Q : MV → Wd → Prop} {x1 : Int} {w : Wd} (h1 : x1 ≤ w 144 2 → Wp (Cw d) cd_M_end (2, 0, n1) Q 11 [mR 144, mI x1] [] w) (h2 : ¬ (x1 ≤ w 144 2) → Wp (Cw d) cd_M_end (2, 0, n1) Q 9 [none, none] [] w) : Wp (Cw d) cd_M_end (2, 0, n1) Q 5 [mR 144, mI x1] [] w :=
  Wp.s (Wp.s (Wp.s (Wp.s ⟨fun q => h1 q, fun q => Wp.fgd (leA.f (leA.f leA.e)) (h2 q)⟩)))
theorem M_end_144_b9 {d : Nat} {n1 : Int} {Q : MV → Wd → Prop} {w : Wd} (h : Q (mI 0) w) : Wp (Cw d) cd_M_end (2, 0, n1) Q 9 [none, none] [] w :=
  Wp.s (Wp.s ⟨(Or.inl rfl), h⟩)
theorem M_end_144_b11 {d : Nat} {n1 : Int} {Q : MV → Wd → Prop} {x1 : Int} {w : Wd} (h : Q (mI 1) (ub w 144 2 x1)) : Wp (Cw d) cd_M_end (2, 0, n1) Q 11 [mR 144, mI x1] [] w :=
  Wp.s (Wp.s (Wp.s (Wp.s (Wp.s ⟨(Or.inr rfl), h⟩))))
theorem X_village_0_b0 {d : Nat} {n1 : Int} {Q : MV → Wd → Prop} {w : Wd} (h : Cw d 16 [mR 0] w (fun r w' => Wp (Cw d) cd_X_village (1, 0, n1) Q 4 [mR 0, none] [r, mR 2] w')) : Wp (Cw d) cd_X_village (1, 0, n1) Q 0 [mR 0, none] [] w :=
  Wp.s (Wp.s (Wp.s (Wp.s h)))
theorem X_village_0_b4 {d : Nat} {n1 : Int} {Q : MV → Wd → Prop} {s0 : Int} {w : Wd} (h : Cw d 17 [mR 2, mI s0, mI 1000] w (fun _ w' => Wp (Cw d) cd_X_village (1, 0, n1) Q 6 [mR 0, none] [] w')) : Wp (Cw d) cd_X_village (1, 0, n1) Q 4 [mR 0, none] [mI s0, mR 2] w :=
  Wp.s (Wp.s h)
theorem X_village_0_b6 {d : Nat} {n1 : Int} {Q : MV → Wd → Prop} {w : Wd} (h : Cw d 23 [mR 16, mR 2] w (fun r w' => Wp (Cw d) cd_X_village (1, 0, n1) Q 11 [mR 0, none] [r] w')) : Wp (Cw d) cd_X_village (1, 0, n1) Q 6 [mR 0, none] [] w :=
  Wp.s (Wp.s (Wp.s (Wp.s (Wp.s h))))
theorem X_village_0_b11 {d : Nat} {n1 : Int} {Q : MV → Wd → Prop} {s0 : Int} {w : Wd} (h1 : s0 < 0 → Wp (Cw d) cd_X_village (1, 0, n1) Q 35 [none, mI s0] [] (ub w 0 2 (w 2 8))) (h2 : ¬ (s0 < 0) → Wp (Cw d) cd_X_village (1, 0, n1) Q 19 [mR 0, mI s0] [] (ub w 0 2 (w 2 8))) : Wp (Cw d) cd_X_village (1, 0, n1) Q 11 [mR 0, none] [mI s0] w :=
  Wp.s (Wp.s (Wp.s (Wp.s (Wp.s (Wp.s (Wp.s (Wp.s ⟨fun q => Wp.fgd (leA.f (leA.k leA.e)) (h1 q), fun q => h2 q⟩)))))))
theorem X_village_0_b19 {d : Nat} {n1 : Int} {Q : MV → Wd → Prop} {x1 : Int} {w : Wd} (h : Cw d 47 [mR 4, mR 16] w (fun _ w' => Wp (Cw d) cd_X_village (1, 0, n1) Q 24 [mR 0, mI x1] [] w')) : Wp (Cw d) cd_X_village (1, 0, n1) Q 19 [mR 0, mI x1] [] w :=
  Wp.s (Wp.s (Wp.s (Wp.s (Wp.s h))))
theorem X_village_0_b24 {d : Nat} {n1 : Int} {Q : MV → Wd → Prop} {x1 : Int} {w : Wd} (h : Wp (Cw d) cd_X_village (1, 0, n1) Q 35 [none, mI x1] [] (ub (ub (ub w 28 0 0) 36 0 0) 0 12 1)) : Wp (Cw d) cd_X_village (1, 0, n1) Q 24 [mR 0, mI x1] [] w :=
  Wp.s (Wp.s (Wp.s (Wp.s (Wp.s (Wp.s (Wp.s (Wp.s (Wp.s (Wp.s (Wp.s ⟨(Or.inr rfl), Wp.fgd (leA.f (leA.k leA.e)) h⟩))))))))))
theorem X_village_0_b35 {d : Nat} {n1 : Int} {Q : MV → Wd → Prop} {x1 : Int} {w : Wd} (h : Q (mI x1) w) : Wp (Cw d) cd_X_village (1, 0, n1) Q 35 [none, mI x1] [] w :=
  Wp.s (Wp.s h)
theorem M_village_144_b0 {d : Nat} {n1 : Int} {Q : MV → Wd → Prop} {w : Wd} (h : Cw d 174 [mR 144, mI 1000] (ub w 144 0 0) (fun _ w' => Wp (Cw d) cd_M_village (1, 0, n1) Q 6 [mR 144, none] [] w')) : Wp (Cw d) cd_M_village (1, 0, n1) Q 0 [mR 144, none] [] w :=
  Wp.s (Wp.s (Wp.s (Wp.s (Wp.s (Wp.s h)))))
theorem M_village_144_b6 {d : Nat} {n1 : Int} {Q : MV → Wd → Prop} {w : Wd} (h : Wp (Cw d) cd_M_village (1, 0, n1) Q 11 [mR 144, mI 0] [] (ub w 144 15 0)) : Wp (Cw d) cd_M_village (1, 0, n1) Q 6 [mR 144, none] [] w :=
  Wp.s (Wp.s (Wp.s (Wp.s (Wp.s h))))
theorem M_village_144_b11 {d : Nat} {n1 : Int} {Q : MV → Wd → Prop} {x1 : Int} {w : Wd} (h1 : 333 ≤ x1 → Wp (Cw d) cd_M_village (1, 0, n1) Q 21 [mR 144, none] [] w) (h2 : ¬ (333 ≤ x1) → Wp (Cw d) cd_M_village (1, 0, n1) Q 14 [mR 144, mI x1] [] w) : Wp (Cw d) cd_M_village (1, 0, n1) Q 11 [mR 144, mI x1] [] w :=
  Wp.s (Wp.s (Wp.s ⟨fun q => Wp.fgd (leA.k (leA.f leA.e)) (h1 q), fun q => h2 q⟩))
theorem M_village_144_b14 {d : Nat} {n1 : Int} {Q : MV → Wd → Prop} {x1 : Int} {w : Wd} (g1 : (0 : Int) ≤ x1 ∧ x1 < 333) (h : Wp (Cw d) cd_M_village (1, 0, n1) Q 11 [mR 144, mI (w32 (x1 + 1))] [] (ub w 147 x1.toNat 0)) : Wp (Cw d) cd_M_village (1, 0, n1) Q 14 [mR 144, mI x1] [] w :=
  Wp.s (Wp.s (Wp.s (Wp.s (Wp.s ⟨g1, Wp.s (Wp.s h)⟩))))
theorem M_village_144_b21 {d : Nat} {n1 : Int} {Q : MV → Wd → Prop} {w : Wd} (h : Cw d 175 [mR 144] (ub (ub (ub (ub w 147 4.toNat 3) 147 5.toNat 1) 144 19 0) 144 20 0) (fun _ w' => Wp (Cw d) cd_M_village (1, 0, n1) Q 39 [mR 144, none] [] w')) : Wp (Cw d) cd_M_village (1, 0, n1) Q 21 [mR 144, none] [] w :=
  Wp.s (Wp.s (Wp.s (Wp.s (Wp.s ⟨(by decide), Wp.s (Wp.s (Wp.s (Wp.s (Wp.s ⟨(by decide), Wp.s (Wp.s (Wp.s ⟨(Or.inl rfl), Wp.s (Wp.s (Wp.s (Wp.s (Wp.s h))))⟩))⟩))))⟩))))
theorem M_village_144_b39 {d : Nat} {n1 : Int} {Q : MV → Wd → Prop} {w : Wd} (h1 : w 144 11 = 0 → Wp (Cw d) cd_M_village (1, 0, n1) Q 61 [mR 144, none] [] w) (h2 : ¬ (w 144 11 = 0) → Wp (Cw d) cd_M_village (1, 0, n1) Q 42 [mR 144, none] [] w) : Wp (Cw d) cd_M_village (1, 0, n1) Q 39 [mR 144, none] [] w :=
  Wp.s (Wp.s (Wp.s ⟨fun q => h1 q, fun q => h2 q⟩))
theorem M_village_144_b42 {d : Nat} {n1 : Int} {Q : MV → Wd → Prop} {w : Wd} (h : Cw d 179 [mR 144] w (fun r w' => Wp (Cw d) cd_M_village (1, 0, n1) Q 44 [mR 144, none] [r] w')) : Wp (Cw d) cd_M_village (1, 0, n1) Q 42 [mR 144, none] [] w :=
  Wp.s (Wp.s h)
theorem M_village_144_b44 {d : Nat} {n1 : Int} {Q : MV → Wd → Prop} {s0 : Int} {w : Wd} (h1 : s0 = 0 → Wp (Cw d) cd_M_village (1, 0, n1) Q 49 [mR 144, none] [] w) (h2 : ¬ (s0 = 0) → Wp (Cw d) cd_M_village (1, 0, n1) Q 45 [mR 144, none] [] w) : Wp (Cw d) cd_M_village (1, 0, n1) Q 44 [mR 144, none] [mI s0] w :=
  Wp.s ⟨fun q => h1 q, fun q => h2 q⟩
theorem M_village_144_b45 {d : Nat} {n1 : Int} {Q : MV → Wd → Prop} {w : Wd} (h : Cw d 195 [mR 144, mI 59] w (fun r w' => Wp (Cw d) cd_M_village (1, 0, n1) Q 48 [mR 144, none] [r] w')) : Wp (Cw d) cd_M_village (1, 0, n1) Q 45 [mR 144, none] [] w :=
  Wp.s (Wp.s (Wp.s h))
theorem M_village_144_b48 {d : Nat} {n1 : Int} {Q : MV → Wd → Prop} {s0 : Int} {w : Wd} (h1 : ¬ s0 = 0 → Wp (Cw d) cd_M_village (1, 0, n1) Q 54 [mR 144, none] [] w) (h2 : ¬ (¬ s0 = 0) → Wp (Cw d) cd_M_village (1, 0, n1) Q 49 [mR 144, none] [] w) : Wp (Cw d) cd_M_village (1, 0, n1) Q 48 [mR 144, none] [mI s0] w :=
  Wp.s ⟨fun q => h1 q, fun q => h2 q⟩
theorem M_village_144_b49 {d : Nat} {n1 : Int} {Q : MV → Wd → Prop} {w : Wd} (h : Q (mI (w32 (((-1)) - (w 144 16)))) w) : Wp (Cw d) cd_M_village (1, 0, n1) Q 49 [mR 144, none] [] w :=
  Wp.s (Wp.s (Wp.s (Wp.s (Wp.s h))))
theorem M_village_144_b54 {d : Nat} {n1 : Int} {Q : MV → Wd → Prop} {w : Wd} (h : Wp (Cw d) cd_M_village (1, 0, n1) Q 39 [mR 144, none] [] (ub w 144 20 (w32 ((w 144 20) + 1)))) : Wp (Cw d) cd_M_village (1, 0, n1) Q 54 [mR 144, none] [] w :=
  Wp.s (Wp.s (Wp.s (Wp.s (Wp.s (Wp.s (Wp.s h))))))
theorem M_village_144_b61 {d : Nat} {n1 : Int} {Q : MV → Wd → Prop} {w : Wd} (h : Wp (Cw d) cd_M_village (1, 0, n1) Q 63 [mR 144, mI 0] [] w) : Wp (Cw d) cd_M_village (1, 0, n1) Q 61 [mR 144, none] [] w :=
  Wp.s (Wp.s h)
theorem M_village_144_b63 {d : Nat} {n1 : Int} {Q : MV → Wd → Prop} {x1 : Int} {w : Wd} (h1 : 645 ≤ x1 → Wp (Cw d) cd_M_village (1, 0, n1) Q 81 [mR 144, none] [] w) (h2 : ¬ (645 ≤ x1) → Wp (Cw d) cd_M_village (1, 0, n1) Q 66 [mR 144, mI x1] [] w) : Wp (Cw d) cd_M_village (1, 0, n1) Q 63 [mR 144, mI x1] [] w :=
  Wp.s (Wp.s (Wp.s ⟨fun q => Wp.fgd (leA.k (leA.f leA.e)) (h1 q), fun q => h2 q⟩))
theorem M_village_144_b66 {d : Nat} {n1 : Int} {Q : MV → Wd → Prop} {x1 : Int} {w : Wd} (h1 : 333 ≤ x1 → Wp (Cw d) cd_M_village (1, 0, n1) Q 77 [mR 144, mI x1] [mI x1, mR 146] w) (h2 : ¬ (333 ≤ x1) → Wp (Cw d) cd_M_village (1, 0, n1) Q 72 [mR 144, mI x1] [mI x1, mR 146] w) : Wp (Cw d) cd_M_village (1, 0, n1) Q 66 [mR 144, mI x1] [] w :=
  Wp.s (Wp.s (Wp.s (Wp.s (Wp.s (Wp.s ⟨fun q => h1 q, fun q => h2 q⟩)))))
theorem M_village_144_b72 {d : Nat} {n1 : Int} {Q : MV → Wd → Prop} {x1 s0 : Int} {w : Wd} (g1 : (0 : Int) ≤ x1 ∧ x1 < 333) (h : Wp (Cw d) cd_M_village (1, 0, n1) Q 78 [mR 144, mI x1] [mI (w 147 x1.toNat), mI s0, mR 146] w) : Wp (Cw d) cd_M_village (1, 0, n1) Q 72 [mR 144, mI x1] [mI s0, mR 146] w :=
  Wp.s (Wp.s (Wp.s (Wp.s ⟨g1, Wp.s h⟩)))
theorem M_village_144_b77 {d : Nat} {n1 : Int} {Q : MV → Wd → Prop} {x1 s0 : Int} {w : Wd} (h : Wp (Cw d) cd_M_village (1, 0, n1) Q 78 [mR 144, mI x1] [mI 0, mI s0, mR 146] w) : Wp (Cw d) cd_M_village (1, 0, n1) Q 77 [mR 144, mI x1] [mI s0, mR 146] w :=
  Wp.s h
theorem M_village_144_b78 {d : Nat} {n1 : Int} {Q : MV → Wd → Prop} {x1 s0 s1 : Int} {w : Wd} (g1 : (0 : Int) ≤ s1 ∧ s1 < 645) (h : Wp (Cw d) cd_M_village (1, 0, n1) Q 63 [mR 144, mI (w32 (x1 + 1))] [] (ub w 146 s1.toNat s0)) : Wp (Cw d) cd_M_village (1, 0, n1) Q 78 [mR 144, mI x1] [mI s0, mI s1, mR 146] w :=
  Wp.s ⟨g1, Wp.s (Wp.s h)⟩
theorem M_village_144_b81 {d : Nat} {n1 : Int} {Q : MV → Wd → Prop} {w : Wd} (h : Wp (Cw d) cd_M_village (1, 0, n1) Q 83 [mR 144, mI 0] [] w) : Wp (Cw d) cd_M_village (1, 0, n1) Q 81 [mR 144, none] [] w :=
  Wp.s (Wp.s h)
theorem M_village_144_b83 {d : Nat} {n1 : Int} {Q : MV → Wd → Prop} {x1 : Int} {w : Wd} (h1 : 14 ≤ x1 → Wp (Cw d) cd_M_village (1, 0, n1) Q 98 [mR 144, none] [] w) (h2 : ¬ (14 ≤ x1) → Wp (Cw d) cd_M_village (1, 0, n1) Q 86 [mR 144, mI x1] [] w) : Wp (Cw d) cd_M_village (1, 0, n1) Q 83 [mR 144, mI x1] [] w :=
  Wp.s (Wp.s (Wp.s ⟨fun q => Wp.fgd (leA.k (leA.f leA.e)) (h1 q), fun q => h2 q⟩))
theorem M_village_144_b86 {d : Nat} {n1 : Int} {Q : MV → Wd → Prop} {x1 : Int} {w : Wd} (g1 : (0 : Int) ≤ w32 (14 + x1) ∧ w32 (14 + x1) < 28) (g2 : (0 : Int) ≤ x1 ∧ x1 < 28) (h : Wp (Cw d) cd_M_village (1, 0, n1) Q 83 [mR 144, mI (w32 (x1 + 1))] [] (ub w 149 x1.toNat (w 149 (w32 (14 + x1)).toNat))) : Wp (Cw d) cd_M_village (1, 0, n1) Q 86 [mR 144, mI x1] [] w :=
  Wp.s (Wp.s (Wp.s (Wp.s (Wp.s (Wp.s (Wp.s (Wp.s (Wp.s ⟨g1, Wp.s ⟨g2, Wp.s (Wp.s h)⟩⟩))))))))
theorem M_village_144_b98 {d : Nat} {n1 : Int} {Q : MV → Wd → Prop} {w : Wd} (h : Q (mI (w 144 20)) w) : Wp (Cw d) cd_M_village (1, 0, n1) Q 98 [mR 144, none] [] w :=
  Wp.s (Wp.s (Wp.s h))
theorem X_fault_0_b0 {d : Nat} {n1 : Int} {Q : MV → Wd → Prop} {w : Wd} (h : Q (mI (w 0 2)) w) : Wp (Cw d) cd_X_fault (1, 0, n1) Q 0 [mR 0] [] w :=
  Wp.s (Wp.s (Wp.s h))
theorem M_fault_144_b0 {d : Nat} {n1 : Int} {Q : MV → Wd → Prop} {w : Wd} (h : Q (mI ((up1 (w 144) 0 0) 15)) (ub w 144 0 0)) : Wp (Cw d) cd_M_fault (1, 0, n1) Q 0 [mR 144] [] w :=
  Wp.s (Wp.s (Wp.s (Wp.s (Wp.s (Wp.s h)))))
theorem M_unit_144_b0 {d : Nat} {n1 : Int} {Q : MV → Wd → Prop} {x1 x2 : Int} {w : Wd} (h : Cw d 199 [mR 144, mI x1] w (fun r w' => Wp (Cw d) cd_M_unit (1, 0, n1) Q 4 [mR 144, mI x1, mI x2] [r, mR 144] w')) : Wp (Cw d) cd_M_unit (1, 0, n1) Q 0 [mR 144, mI x1, mI x2] [] w :=
  Wp.s (Wp.s (Wp.s (Wp.s h)))
theorem M_unit_144_b4 {d : Nat} {n1 : Int} {Q : MV → Wd → Prop} {x1 x2 s0 : Int} {w : Wd} (h1 : s0 = 0 → Wp (Cw d) cd_M_unit (1, 0, n1) Q 10 [mR 144, mI x1, mI x2] [mR 144] w) (h2 : ¬ (s0 = 0) → Wp (Cw d) cd_M_unit (1, 0, n1) Q 5 [mR 144, mI x1, mI x2] [mR 144] w) : Wp (Cw d) cd_M_unit (1, 0, n1) Q 4 [mR 144, mI x1, mI x2] [mI s0, mR 144] w :=
  Wp.s ⟨fun q => h1 q, fun q => h2 q⟩
theorem M_unit_144_b5 {d : Nat} {n1 : Int} {Q : MV → Wd → Prop} {x1 x2 : Int} {w : Wd} (h : Cw d 187 [mI x2, mI 0, mI 4] w (fun r w' => Wp (Cw d) cd_M_unit (1, 0, n1) Q 9 [mR 144, mI x1, mI x2] [r, mR 144] w')) : Wp (Cw d) cd_M_unit (1, 0, n1) Q 5 [mR 144, mI x1, mI x2] [mR 144] w :=
  Wp.s (Wp.s (Wp.s (Wp.s h)))
theorem M_unit_144_b9 {d : Nat} {n1 : Int} {Q : MV → Wd → Prop} {x1 x2 s0 : Int} {w : Wd} (h1 : ¬ s0 = 0 → Wp (Cw d) cd_M_unit (1, 0, n1) Q 12 [mR 144, mI x1, mI x2] [mR 144] w) (h2 : ¬ (¬ s0 = 0) → Wp (Cw d) cd_M_unit (1, 0, n1) Q 10 [mR 144, mI x1, mI x2] [mR 144] w) : Wp (Cw d) cd_M_unit (1, 0, n1) Q 9 [mR 144, mI x1, mI x2] [mI s0, mR 144] w :=
  Wp.s ⟨fun q => h1 q, fun q => h2 q⟩
theorem M_unit_144_b10 {d : Nat} {n1 : Int} {Q : MV → Wd → Prop} {x1 x2 : Int} {w : Wd} (h : Wp (Cw d) cd_M_unit (1, 0, n1) Q 13 [mR 144, mI x1, mI x2] [mI 1, mR 144] w) : Wp (Cw d) cd_M_unit (1, 0, n1) Q 10 [mR 144, mI x1, mI x2] [mR 144] w :=
  Wp.s (Wp.s h)
theorem M_unit_144_b12 {d : Nat} {n1 : Int} {Q : MV → Wd → Prop} {x1 x2 : Int} {w : Wd} (h : Wp (Cw d) cd_M_unit (1, 0, n1) Q 13 [mR 144, mI x1, mI x2] [mI 0, mR 144] w) : Wp (Cw d) cd_M_unit (1, 0, n1) Q 12 [mR 144, mI x1, mI x2] [mR 144] w :=
  Wp.s h
theorem M_unit_144_b13 {d : Nat} {n1 : Int} {Q : MV → Wd → Prop} {x1 x2 s0 : Int} {w : Wd} (h : Cw d 200 [mR 144, mI s0] w (fun r w' => Wp (Cw d) cd_M_unit (1, 0, n1) Q 14 [mR 144, mI x1, mI x2] [r] w')) : Wp (Cw d) cd_M_unit (1, 0, n1) Q 13 [mR 144, mI x1, mI x2] [mI s0, mR 144] w :=
  Wp.s h
theorem M_unit_144_b14 {d : Nat} {n1 : Int} {Q : MV → Wd → Prop} {x1 x2 s0 : Int} {w : Wd} (h1 : s0 = 0 → Wp (Cw d) cd_M_unit (1, 0, n1) Q 17 [mR 144, mI x1, mI x2] [] w) (h2 : ¬ (s0 = 0) → Wp (Cw d) cd_M_unit (1, 0, n1) Q 15 [none, none, none] [] w) : Wp (Cw d) cd_M_unit (1, 0, n1) Q 14 [mR 144, mI x1, mI x2] [mI s0] w :=
  Wp.s ⟨fun q => h1 q, fun q => Wp.fgd (leA.f (leA.f (leA.f leA.e))) (h2 q)⟩
theorem M_unit_144_b15 {d : Nat} {n1 : Int} {Q : MV → Wd → Prop} {w : Wd} (h : Q (mI 0) w) : Wp (Cw d) cd_M_unit (1, 0, n1) Q 15 [none, none, none] [] w :=
  Wp.s (Wp.s h)
theorem M_unit_144_b17 {d : Nat} {n1 : Int} {Q : MV → Wd → Prop} {x1 x2 : Int} {w : Wd} (h1 : ¬ x2 = 4 → Wp (Cw d) cd_M_unit (1, 0, n1) Q 24 [mR 144, mI x1, mI x2] [] w) (h2 : ¬ (¬ x2 = 4) → Wp (Cw d) cd_M_unit (1, 0, n1) Q 20 [mR 144, mI x1, none] [] w) : Wp (Cw d) cd_M_unit (1, 0, n1) Q 17 [mR 144, mI x1, mI x2] [] w :=
  Wp.s (Wp.s (Wp.s ⟨fun q => h1 q, fun q => Wp.fgd (leA.k (leA.k (leA.f leA.e))) (h2 q)⟩))
theorem M_unit_144_b20 {d : Nat} {n1 : Int} {Q : MV → Wd → Prop} {x1 : Int} {w : Wd} (h : Cw d 201 [mR 144, mI x1] w (fun r w' => Wp (Cw d) cd_M_unit (1, 0, n1) Q 23 [none, none, none] [r] w')) : Wp (Cw d) cd_M_unit (1, 0, n1) Q 20 [mR 144, mI x1, none] [] w :=
  Wp.s (Wp.s (Wp.s (Cw_mono _ _ _ _ _ _ (fun r w' q => Wp.fgd (leA.f (leA.f (leA.f leA.e))) q) h)))
theorem M_unit_144_b23 {d : Nat} {n1 : Int} {Q : MV → Wd → Prop} {s0 : Int} {w : Wd} (h : Wp (Cw d) cd_M_unit (1, 0, n1) Q 36 [none, none, none] [mI s0] w) : Wp (Cw d) cd_M_unit (1, 0, n1) Q 23 [none, none, none] [mI s0] w :=
  Wp.s h
theorem M_unit_144_b24 {d : Nat} {n1 : Int} {Q : MV → Wd → Prop} {x1 x2 : Int} {w : Wd} (g1 : (0 : Int) ≤ w32 ((w32 ((w32 (29 + (w32 (5 * x1)))) + 1)) + x2) ∧ w32 ((w32 ((w32 (29 + (w32 (5 * x1)))) + 1)) + x2) < 645) (h : Wp (Cw d) cd_M_unit (1, 0, n1) Q 36 [none, none, none] [mI (w 146 (w32 ((w32 ((w32 (29 + (w32 (5 * x1)))) + 1)) + x2)).toNat)] w) : Wp (Cw d) cd_M_unit (1, 0, n1) Q 24 [mR 144, mI x1, mI x2] [] w :=
  Wp.s (Wp.s (Wp.s (Wp.s (Wp.s (Wp.s (Wp.s (Wp.s (Wp.s (Wp.s (Wp.s (Wp.s ⟨g1, Wp.fgd (leA.f (leA.f (leA.f leA.e))) h⟩)))))))))))
theorem M_unit_144_b36 {d : Nat} {n1 : Int} {Q : MV → Wd → Prop} {s0 : Int} {w : Wd} (h : Q (mI s0) w) : Wp (Cw d) cd_M_unit (1, 0, n1) Q 36 [none, none, none] [mI s0] w :=
  Wp.s h
theorem M_thrown_144_b0 {d : Nat} {n1 : Int} {Q : MV → Wd → Prop} {w : Wd} (h : Q (mI (w 144 0)) w) : Wp (Cw d) cd_M_thrown (1, 0, n1) Q 0 [mR 144] [] w :=
  Wp.s (Wp.s (Wp.s h))
theorem M_want_144_b0 {d : Nat} {n1 : Int} {Q : MV → Wd → Prop} {x1 x2 : Int} {w : Wd} (h : Cw d 204 [mR 144, mI x1] w (fun r w' => Wp (Cw d) cd_M_want (1, 0, n1) Q 4 [mR 144, mI x1, mI x2] [r, mR 144] w')) : Wp (Cw d) cd_M_want (1, 0, n1) Q 0 [mR 144, mI x1, mI x2] [] w :=
  Wp.s (Wp.s (Wp.s (Wp.s h)))
theorem M_want_144_b4 {d : Nat} {n1 : Int} {Q : MV → Wd → Prop} {x1 x2 s0 : Int} {w : Wd} (h1 : s0 = 0 → Wp (Cw d) cd_M_want (1, 0, n1) Q 10 [mR 144, mI x1, mI x2] [mR 144] w) (h2 : ¬ (s0 = 0) → Wp (Cw d) cd_M_want (1, 0, n1) Q 5 [mR 144, mI x1, mI x2] [mR 144] w) : Wp (Cw d) cd_M_want (1, 0, n1) Q 4 [mR 144, mI x1, mI x2] [mI s0, mR 144] w :=
  Wp.s ⟨fun q => h1 q, fun q => h2 q⟩
theorem M_want_144_b5 {d : Nat} {n1 : Int} {Q : MV → Wd → Prop} {x1 x2 : Int} {w : Wd} (h : Cw d 187 [mI x2, mI 0, mI 3] w (fun r w' => Wp (Cw d) cd_M_want (1, 0, n1) Q 9 [mR 144, mI x1, mI x2] [r, mR 144] w')) : Wp (Cw d) cd_M_want (1, 0, n1) Q 5 [mR 144, mI x1, mI x2] [mR 144] w :=
  Wp.s (Wp.s (Wp.s (Wp.s h)))
theorem M_want_144_b9 {d : Nat} {n1 : Int} {Q : MV → Wd → Prop} {x1 x2 s0 : Int} {w : Wd} (h1 : ¬ s0 = 0 → Wp (Cw d) cd_M_want (1, 0, n1) Q 12 [mR 144, mI x1, mI x2] [mR 144] w) (h2 : ¬ (¬ s0 = 0) → Wp (Cw d) cd_M_want (1, 0, n1) Q 10 [mR 144, mI x1, mI x2] [mR 144] w) : Wp (Cw d) cd_M_want (1, 0, n1) Q 9 [mR 144, mI x1, mI x2] [mI s0, mR 144] w :=
  Wp.s ⟨fun q => h1 q, fun q => h2 q⟩
theorem M_want_144_b10 {d : Nat} {n1 : Int} {Q : MV → Wd → Prop} {x1 x2 : Int} {w : Wd} (h : Wp (Cw d) cd_M_want (1, 0, n1) Q 13 [mR 144, mI x1, mI x2] [mI 1, mR 144] w) : Wp (Cw d) cd_M_want (1, 0, n1) Q 10 [mR 144, mI x1, mI x2] [mR 144] w :=
  Wp.s (Wp.s h)
theorem M_want_144_b12 {d : Nat} {n1 : Int} {Q : MV → Wd → Prop} {x1 x2 : Int} {w : Wd} (h : Wp (Cw d) cd_M_want (1, 0, n1) Q 13 [mR 144, mI x1, mI x2] [mI 0, mR 144] w) : Wp (Cw d) cd_M_want (1, 0, n1) Q 12 [mR 144, mI x1, mI x2] [mR 144] w :=
  Wp.s h
theorem M_want_144_b13 {d : Nat} {n1 : Int} {Q : MV → Wd → Prop} {x1 x2 s0 : Int} {w : Wd} (h : Cw d 200 [mR 144, mI s0] w (fun r w' => Wp (Cw d) cd_M_want (1, 0, n1) Q 14 [mR 144, mI x1, mI x2] [r] w')) : Wp (Cw d) cd_M_want (1, 0, n1) Q 13 [mR 144, mI x1, mI x2] [mI s0, mR 144] w :=
  Wp.s h
theorem M_want_144_b14 {d : Nat} {n1 : Int} {Q : MV → Wd → Prop} {x1 x2 s0 : Int} {w : Wd} (h1 : s0 = 0 → Wp (Cw d) cd_M_want (1, 0, n1) Q 17 [mR 144, mI x1, mI x2] [] w) (h2 : ¬ (s0 = 0) → Wp (Cw d) cd_M_want (1, 0, n1) Q 15 [none, none, none] [] w) : Wp (Cw d) cd_M_want (1, 0, n1) Q 14 [mR 144, mI x1, mI x2] [mI s0] w :=
  Wp.s ⟨fun q => h1 q, fun q => Wp.fgd (leA.f (leA.f (leA.f leA.e))) (h2 q)⟩
theorem M_want_144_b15 {d : Nat} {n1 : Int} {Q : MV → Wd → Prop} {w : Wd} (h : Wp (Cw d) cd_M_want (1, 0, n1) Q 27 [none, none, none] [mI 0] w) : Wp (Cw d) cd_M_want (1, 0, n1) Q 15 [none, none, none] [] w :=
  Wp.s (Wp.s h)
theorem M_want_144_b17 {d : Nat} {n1 : Int} {Q : MV → Wd → Prop} {x1 x2 : Int} {w : Wd} (g1 : (0 : Int) ≤ w32 ((w32 (109 + (w32 (4 * x1)))) + x2) ∧ w32 ((w32 (109 + (w32 (4 * x1)))) + x2) < 645) (h : Wp (Cw d) cd_M_want (1, 0, n1) Q 27 [none, none, none] [mI (w 146 (w32 ((w32 (109 + (w32 (4 * x1)))) + x2)).toNat)] w) : Wp (Cw d) cd_M_want (1, 0, n1) Q 17 [mR 144, mI x1, mI x2] [] w :=
  Wp.s (Wp.s (Wp.s (Wp.s (Wp.s (Wp.s (Wp.s (Wp.s (Wp.s (Wp.s ⟨g1, Wp.fgd (leA.f (leA.f (leA.f leA.e))) h⟩)))))))))
theorem M_want_144_b27 {d : Nat} {n1 : Int} {Q : MV → Wd → Prop} {s0 : Int} {w : Wd} (h : Q (mI s0) w) : Wp (Cw d) cd_M_want (1, 0, n1) Q 27 [none, none, none] [mI s0] w :=
  Wp.s h
theorem X_giving_0_b0 {d : Nat} {n1 : Int} {Q : MV → Wd → Prop} {x1 x2 x3 : Int} {w : Wd} (h : Cw d 51 [mR 4, mI x1] w (fun r w' => Wp (Cw d) cd_X_giving (1, 0, n1) Q 4 [mR 0, mI x1, mI x2, mI x3, none] [r] w')) : Wp (Cw d) cd_X_giving (1, 0, n1) Q 0 [mR 0, mI x1, mI x2, mI x3, none] [] w :=
  Wp.s (Wp.s (Wp.s (Wp.s h)))
theorem X_giving_0_b4 {d : Nat} {n1 : Int} {Q : MV → Wd → Prop} {x1 x2 x3 s0 : Int} {w : Wd} (h1 : s0 = 0 → Wp (Cw d) cd_X_giving (1, 0, n1) Q 15 [none, none, none, none, none] [] w) (h2 : ¬ (s0 = 0) → Wp (Cw d) cd_X_giving (1, 0, n1) Q 5 [mR 0, mI x1, mI x2, mI x3, none] [] w) : Wp (Cw d) cd_X_giving (1, 0, n1) Q 4 [mR 0, mI x1, mI x2, mI x3, none] [mI s0] w :=
  Wp.s ⟨fun q => Wp.fgd (leA.f (leA.f (leA.f (leA.f (leA.f leA.e))))) (h1 q), fun q => h2 q⟩
theorem X_giving_0_b5 {d : Nat} {n1 : Int} {Q : MV → Wd → Prop} {x1 x2 x3 : Int} {w : Wd} (h : Cw d 51 [mR 4, mI x2] w (fun r w' => Wp (Cw d) cd_X_giving (1, 0, n1) Q 9 [mR 0, mI x1, mI x2, mI x3, none] [r] w')) : Wp (Cw d) cd_X_giving (1, 0, n1) Q 5 [mR 0, mI x1, mI x2, mI x3, none] [] w :=
  Wp.s (Wp.s (Wp.s (Wp.s h)))
theorem X_giving_0_b9 {d : Nat} {n1 : Int} {Q : MV → Wd → Prop} {x1 x2 x3 s0 : Int} {w : Wd} (h1 : s0 = 0 → Wp (Cw d) cd_X_giving (1, 0, n1) Q 15 [none, none, none, none, none] [] w) (h2 : ¬ (s0 = 0) → Wp (Cw d) cd_X_giving (1, 0, n1) Q 10 [mR 0, mI x1, mI x2, mI x3, none] [] w) : Wp (Cw d) cd_X_giving (1, 0, n1) Q 9 [mR 0, mI x1, mI x2, mI x3, none] [mI s0] w :=
  Wp.s ⟨fun q => Wp.fgd (leA.f (leA.f (leA.f (leA.f (leA.f leA.e))))) (h1 q), fun q => h2 q⟩
theorem X_giving_0_b10 {d : Nat} {n1 : Int} {Q : MV → Wd → Prop} {x1 x2 x3 : Int} {w : Wd} (h1 : x3 < 0 → Wp (Cw d) cd_X_giving (1, 0, n1) Q 15 [none, none, none, none, none] [] w) (h2 : ¬ (x3 < 0) → Wp (Cw d) cd_X_giving (1, 0, n1) Q 12 [mR 0, mI x1, mI x2, mI x3, none] [] w) : Wp (Cw d) cd_X_giving (1, 0, n1) Q 10 [mR 0, mI x1, mI x2, mI x3, none] [] w :=
  Wp.s (Wp.s ⟨fun q => Wp.fgd (leA.f (leA.f (leA.f (leA.f (leA.f leA.e))))) (h1 q), fun q => h2 q⟩)
theorem X_giving_0_b12 {d : Nat} {n1 : Int} {Q : MV → Wd → Prop} {x1 x2 x3 : Int} {w : Wd} (h1 : x3 ≤ 1 → Wp (Cw d) cd_X_giving (1, 0, n1) Q 17 [mR 0, mI x1, mI x2, mI x3, none] [] w) (h2 : ¬ (x3 ≤ 1) → Wp (Cw d) cd_X_giving (1, 0, n1) Q 15 [none, none, none, none, none] [] w) : Wp (Cw d) cd_X_giving (1, 0, n1) Q 12 [mR 0, mI x1, mI x2, mI x3, none] [] w :=
  Wp.s (Wp.s (Wp.s ⟨fun q => h1 q, fun q => Wp.fgd (leA.f (leA.f (leA.f (leA.f (leA.f leA.e))))) (h2 q)⟩))
theorem X_giving_0_b15 {d : Nat} {n1 : Int} {Q : MV → Wd → Prop} {w : Wd} (h : Q (mI ((-1))) w) : Wp (Cw d) cd_X_giving (1, 0, n1) Q 15 [none, none, none, none, none] [] w :=
  Wp.s (Wp.s h)
theorem X_giving_0_b17 {d : Nat} {n1 : Int} {Q : MV → Wd → Prop} {x1 x2 x3 : Int} {w : Wd} (g1 : (0 : Int) ≤ w32 ((w32 (x1 * 8)) + x2) ∧ w32 ((w32 (x1 * 8)) + x2) < 64) (h1 : ¬ w 14 (w32 ((w32 (x1 * 8)) + x2)).toNat = (-1) → Wp (Cw d) cd_X_giving (1, 0, n1) Q 32 [mR 0, none, none, mI x3, mI (w32 ((w32 (x1 * 8)) + x2))] [] w) (h2 : ¬ (¬ w 14 (w32 ((w32 (x1 * 8)) + x2)).toNat = (-1)) → Wp (Cw d) cd_X_giving (1, 0, n1) Q 30 [none, none, none, none, none] [] w) : Wp (Cw d) cd_X_giving (1, 0, n1) Q 17 [mR 0, mI x1, mI x2, mI x3, none] [] w :=
  Wp.s (Wp.s (Wp.s (Wp.s (Wp.s (Wp.s (Wp.s (Wp.s (Wp.s (Wp.s (Wp.s ⟨g1, Wp.s (Wp.s ⟨fun q => Wp.fgd (leA.k (leA.f (leA.f (leA.k (leA.k leA.e))))) (h1 q), fun q => Wp.fgd (leA.f (leA.f (leA.f (leA.f (leA.f leA.e))))) (h2 q)⟩)⟩))))))))))
theorem X_giving_0_b30 {d : Nat} {n1 : Int} {Q : MV → Wd → Prop} {w : Wd} (h : Q (mI ((-1))) w) : Wp (Cw d) cd_X_giving (1, 0, n1) Q 30 [none, none, none, none, none] [] w :=
  Wp.s (Wp.s h)
theorem X_giving_0_b32 {d : Nat} {n1 : Int} {Q : MV → Wd → Prop} {x3 x4 : Int} {w : Wd} (h1 : ¬ x3 = 0 → Wp (Cw d) cd_X_giving (1, 0, n1) Q 40 [mR 0, none, none, none, mI x4] [] w) (h2 : ¬ (¬ x3 = 0) → Wp (Cw d) cd_X_giving (1, 0, n1) Q 34 [mR 0, none, none, none, mI x4] [] w) : Wp (Cw d) cd_X_giving (1, 0, n1) Q 32 [mR 0, none, none, mI x3, mI x4] [] w :=
  Wp.s (Wp.s ⟨fun q => Wp.fgd (leA.k (leA.f (leA.f (leA.f (leA.k leA.e))))) (h1 q), fun q => Wp.fgd (leA.k (leA.f (leA.f (leA.f (leA.k leA.e))))) (h2 q)⟩)
theorem X_giving_0_b34 {d : Nat} {n1 : Int} {Q : MV → Wd → Prop} {x4 : Int} {w : Wd} (g1 : (0 : Int) ≤ x4 ∧ x4 < 64) (h : Wp (Cw d) cd_X_giving (1, 0, n1) Q 45 [none, none, none, none, none] [mI (w 14 x4.toNat)] w) : Wp (Cw d) cd_X_giving (1, 0, n1) Q 34 [mR 0, none, none, none, mI x4] [] w :=
  Wp.s (Wp.s (Wp.s (Wp.s (Wp.s ⟨g1, Wp.s (Wp.fgd (leA.f (leA.f (leA.f (leA.f (leA.f leA.e))))) h)⟩))))
theorem X_giving_0_b40 {d : Nat} {n1 : Int} {Q : MV → Wd → Prop} {x4 : Int} {w : Wd} (g1 : (0 : Int) ≤ x4 ∧ x4 < 64) (h : Wp (Cw d) cd_X_giving (1, 0, n1) Q 45 [none, none, none, none, none] [mI (w 15 x4.toNat)] w) : Wp (Cw d) cd_X_giving (1, 0, n1) Q 40 [mR 0, none, none, none, mI x4] [] w :=
  Wp.s (Wp.s (Wp.s (Wp.s (Wp.s ⟨g1, Wp.fgd (leA.f (leA.f (leA.f (leA.f (leA.f leA.e))))) h⟩))))
theorem X_giving_0_b45 {d : Nat} {n1 : Int} {Q : MV → Wd → Prop} {s0 : Int} {w : Wd} (h : Q (mI s0) w) : Wp (Cw d) cd_X_giving (1, 0, n1) Q 45 [none, none, none, none, none] [mI s0] w :=
  Wp.s h
theorem M_giving_144_b0 {d : Nat} {n1 : Int} {Q : MV → Wd → Prop} {x1 x2 x3 : Int} {w : Wd} (h : Cw d 206 [mR 144, mI x1] (ub w 144 0 0) (fun r w' => Wp (Cw d) cd_M_giving (1, 0, n1) Q 6 [mR 144, mI x1, mI x2, mI x3] [r] w')) : Wp (Cw d) cd_M_giving (1, 0, n1) Q 0 [mR 144, mI x1, mI x2, mI x3] [] w :=
  Wp.s (Wp.s (Wp.s (Wp.s (Wp.s (Wp.s h)))))
theorem M_giving_144_b6 {d : Nat} {n1 : Int} {Q : MV → Wd → Prop} {x1 x2 x3 s0 : Int} {w : Wd} (h1 : s0 = 0 → Wp (Cw d) cd_M_giving (1, 0, n1) Q 22 [none, none, none, none] [] w) (h2 : ¬ (s0 = 0) → Wp (Cw d) cd_M_giving (1, 0, n1) Q 7 [mR 144, mI x1, mI x2, mI x3] [] w) : Wp (Cw d) cd_M_giving (1, 0, n1) Q 6 [mR 144, mI x1, mI x2, mI x3] [mI s0] w :=
  Wp.s ⟨fun q => Wp.fgd (leA.f (leA.f (leA.f (leA.f leA.e)))) (h1 q), fun q => h2 q⟩
theorem M_giving_144_b7 {d : Nat} {n1 : Int} {Q : MV → Wd → Prop} {x1 x2 x3 : Int} {w : Wd} (h : Cw d 206 [mR 144, mI x2] w (fun r w' => Wp (Cw d) cd_M_giving (1, 0, n1) Q 10 [mR 144, mI x1, mI x2, mI x3] [r] w')) : Wp (Cw d) cd_M_giving (1, 0, n1) Q 7 [mR 144, mI x1, mI x2, mI x3] [] w :=
  Wp.s (Wp.s (Wp.s h))
theorem M_giving_144_b10 {d : Nat} {n1 : Int} {Q : MV → Wd → Prop} {x1 x2 x3 s0 : Int} {w : Wd} (h1 : s0 = 0 → Wp (Cw d) cd_M_giving (1, 0, n1) Q 22 [none, none, none, none] [] w) (h2 : ¬ (s0 = 0) → Wp (Cw d) cd_M_giving (1, 0, n1) Q 11 [mR 144, mI x1, mI x2, mI x3] [] w) : Wp (Cw d) cd_M_giving (1, 0, n1) Q 10 [mR 144, mI x1, mI x2, mI x3] [mI s0] w :=
  Wp.s ⟨fun q => Wp.fgd (leA.f (leA.f (leA.f (leA.f leA.e)))) (h1 q), fun q => h2 q⟩
theorem M_giving_144_b11 {d : Nat} {n1 : Int} {Q : MV → Wd → Prop} {x1 x2 x3 : Int} {w : Wd} (g1 : (0 : Int) ≤ w32 ((w32 (269 + (w32 (8 * x1)))) + x2) ∧ w32 ((w32 (269 + (w32 (8 * x1)))) + x2) < 645) (h1 : ¬ w 146 (w32 ((w32 (269 + (w32 (8 * x1)))) + x2)).toNat = 0 → Wp (Cw d) cd_M_giving (1, 0, n1) Q 24 [mR 144, mI x1, mI x2, mI x3] [] w) (h2 : ¬ (¬ w 146 (w32 ((w32 (269 + (w32 (8 * x1)))) + x2)).toNat = 0) → Wp (Cw d) cd_M_giving (1, 0, n1) Q 22 [none, none, none, none] [] w) : Wp (Cw d) cd_M_giving (1, 0, n1) Q 11 [mR 144, mI x1, mI x2, mI x3] [] w :=
  Wp.s (Wp.s (Wp.s (Wp.s (Wp.s (Wp.s (Wp.s (Wp.s (Wp.s (Wp.s ⟨g1, Wp.s ⟨fun q => h1 q, fun q => Wp.fgd (leA.f (leA.f (leA.f (leA.f leA.e)))) (h2 q)⟩⟩)))))))))
theorem M_giving_144_b22 {d : Nat} {n1 : Int} {Q : MV → Wd → Prop} {w : Wd} (h : Q (mI ((-1))) w) : Wp (Cw d) cd_M_giving (1, 0, n1) Q 22 [none, none, none, none] [] w :=
  Wp.s (Wp.s h)
theorem M_giving_144_b24 {d : Nat} {n1 : Int} {Q : MV → Wd → Prop} {x1 x2 x3 : Int} {w : Wd} (h1 : ¬ x3 = 0 → Wp (Cw d) cd_M_giving (1, 0, n1) Q 37 [mR 144, mI x1, mI x2, mI x3] [] w) (h2 : ¬ (¬ x3 = 0) → Wp (Cw d) cd_M_giving (1, 0, n1) Q 26 [mR 144, mI x1, mI x2, none] [] w) : Wp (Cw d) cd_M_giving (1, 0, n1) Q 24 [mR 144, mI x1, mI x2, mI x3] [] w :=
  Wp.s (Wp.s ⟨fun q => h1 q, fun q => Wp.fgd (leA.k (leA.k (leA.k (leA.f leA.e)))) (h2 q)⟩)
theorem M_giving_144_b26 {d : Nat} {n1 : Int} {Q : MV → Wd → Prop} {x1 x2 : Int} {w : Wd} (g1 : (0 : Int) ≤ w32 ((w32 (141 + (w32 (8 * x1)))) + x2) ∧ w32 ((w32 (141 + (w32 (8 * x1)))) + x2) < 645) (h : Wp (Cw d) cd_M_giving (1, 0, n1) Q 52 [none, none, none, none] [mI (w 146 (w32 ((w32 (141 + (w32 (8 * x1)))) + x2)).toNat)] w) : Wp (Cw d) cd_M_giving (1, 0, n1) Q 26 [mR 144, mI x1, mI x2, none] [] w :=
  Wp.s (Wp.s (Wp.s (Wp.s (Wp.s (Wp.s (Wp.s (Wp.s (Wp.s (Wp.s ⟨g1, Wp.s (Wp.fgd (leA.f (leA.f (leA.f (leA.f leA.e)))) h)⟩)))))))))
theorem M_giving_144_b37 {d : Nat} {n1 : Int} {Q : MV → Wd → Prop} {x1 x2 x3 : Int} {w : Wd} (h1 : ¬ x3 = 1 → Wp (Cw d) cd_M_giving (1, 0, n1) Q 51 [none, none, none, none] [] w) (h2 : ¬ (¬ x3 = 1) → Wp (Cw d) cd_M_giving (1, 0, n1) Q 40 [mR 144, mI x1, mI x2, none] [] w) : Wp (Cw d) cd_M_giving (1, 0, n1) Q 37 [mR 144, mI x1, mI x2, mI x3] [] w :=
  Wp.s (Wp.s (Wp.s ⟨fun q => Wp.fgd (leA.f (leA.f (leA.f (leA.f leA.e)))) (h1 q), fun q => Wp.fgd (leA.k (leA.k (leA.k (leA.f leA.e)))) (h2 q)⟩))
theorem M_giving_144_b40 {d : Nat} {n1 : Int} {Q : MV → Wd → Prop} {x1 x2 : Int} {w : Wd} (g1 : (0 : Int) ≤ w32 ((w32 (205 + (w32 (8 * x1)))) + x2) ∧ w32 ((w32 (205 + (w32 (8 * x1)))) + x2) < 645) (h : Wp (Cw d) cd_M_giving (1, 0, n1) Q 52 [none, none, none, none] [mI (w 146 (w32 ((w32 (205 + (w32 (8 * x1)))) + x2)).toNat)] w) : Wp (Cw d) cd_M_giving (1, 0, n1) Q 40 [mR 144, mI x1, mI x2, none] [] w :=
  Wp.s (Wp.s (Wp.s (Wp.s (Wp.s (Wp.s (Wp.s (Wp.s (Wp.s (Wp.s ⟨g1, Wp.s (Wp.fgd (leA.f (leA.f (leA.f (leA.f leA.e)))) h)⟩)))))))))
theorem M_giving_144_b51 {d : Nat} {n1 : Int} {Q : MV → Wd → Prop} {w : Wd} (h : Wp (Cw d) cd_M_giving (1, 0, n1) Q 52 [none, none, none, none] [mI ((-1))] w) : Wp (Cw d) cd_M_giving (1, 0, n1) Q 51 [none, none, none, none] [] w :=
  Wp.s h
theorem M_giving_144_b52 {d : Nat} {n1 : Int} {Q : MV → Wd → Prop} {s0 : Int} {w : Wd} (h : Q (mI s0) w) : Wp (Cw d) cd_M_giving (1, 0, n1) Q 52 [none, none, none, none] [mI s0] w :=
  Wp.s h
theorem X_way_0_b0 {d : Nat} {n1 : Int} {Q : MV → Wd → Prop} {x1 x2 x3 : Int} {w : Wd} (h : Cw d 53 [mR 4, mI x1] w (fun r w' => Wp (Cw d) cd_X_way (1, 0, n1) Q 4 [mR 0, mI x1, mI x2, mI x3, none, none, none] [r] w')) : Wp (Cw d) cd_X_way (1, 0, n1) Q 0 [mR 0, mI x1, mI x2, mI x3, none, none, none] [] w :=
  Wp.s (Wp.s (Wp.s (Wp.s h)))
theorem X_way_0_b4 {d : Nat} {n1 : Int} {Q : MV → Wd → Prop} {x1 x2 x3 s0 : Int} {w : Wd} (h1 : s0 = 0 → Wp (Cw d) cd_X_way (1, 0, n1) Q 15 [none, none, none, none, none, none, none] [] w) (h2 : ¬ (s0 = 0) → Wp (Cw d) cd_X_way (1, 0, n1) Q 5 [mR 0, mI x1, mI x2, mI x3, none, none, none] [] w) : Wp (Cw d) cd_X_way (1, 0, n1) Q 4 [mR 0, mI x1, mI x2, mI x3, none, none, none] [mI s0] w :=
  Wp.s ⟨fun q => Wp.fgd (leA.f (leA.f (leA.f (leA.f (leA.f (leA.f (leA.f leA.e))))))) (h1 q), fun q => h2 q⟩
theorem X_way_0_b5 {d : Nat} {n1 : Int} {Q : MV → Wd → Prop} {x1 x2 x3 : Int} {w : Wd} (h : Cw d 54 [mR 4, mI x2] w (fun r w' => Wp (Cw d) cd_X_way (1, 0, n1) Q 9 [mR 0, mI x1, mI x2, mI x3, none, none, none] [r] w')) : Wp (Cw d) cd_X_way (1, 0, n1) Q 5 [mR 0, mI x1, mI x2, mI x3, none, none, none] [] w :=
  Wp.s (Wp.s (Wp.s (Wp.s h)))
theorem X_way_0_b9 {d : Nat} {n1 : Int} {Q : MV → Wd → Prop} {x1 x2 x3 s0 : Int} {w : Wd} (h1 : s0 = 0 → Wp (Cw d) cd_X_way (1, 0, n1) Q 15 [none, none, none, none, none, none, none] [] w) (h2 : ¬ (s0 = 0) → Wp (Cw d) cd_X_way (1, 0, n1) Q 10 [mR 0, mI x1, mI x2, mI x3, none, none, none] [] w) : Wp (Cw d) cd_X_way (1, 0, n1) Q 9 [mR 0, mI x1, mI x2, mI x3, none, none, none] [mI s0] w :=
  Wp.s ⟨fun q => Wp.fgd (leA.f (leA.f (leA.f (leA.f (leA.f (leA.f (leA.f leA.e))))))) (h1 q), fun q => h2 q⟩
theorem X_way_0_b10 {d : Nat} {n1 : Int} {Q : MV → Wd → Prop} {x1 x2 x3 : Int} {w : Wd} (h1 : x3 < 0 → Wp (Cw d) cd_X_way (1, 0, n1) Q 15 [none, none, none, none, none, none, none] [] w) (h2 : ¬ (x3 < 0) → Wp (Cw d) cd_X_way (1, 0, n1) Q 12 [mR 0, mI x1, mI x2, mI x3, none, none, none] [] w) : Wp (Cw d) cd_X_way (1, 0, n1) Q 10 [mR 0, mI x1, mI x2, mI x3, none, none, none] [] w :=
  Wp.s (Wp.s ⟨fun q => Wp.fgd (leA.f (leA.f (leA.f (leA.f (leA.f (leA.f (leA.f leA.e))))))) (h1 q), fun q => h2 q⟩)
theorem X_way_0_b12 {d : Nat} {n1 : Int} {Q : MV → Wd → Prop} {x1 x2 x3 : Int} {w : Wd} (h1 : x3 ≤ 2 → Wp (Cw d) cd_X_way (1, 0, n1) Q 17 [mR 0, mI x1, mI x2, mI x3, none, none, none] [] w) (h2 : ¬ (x3 ≤ 2) → Wp (Cw d) cd_X_way (1, 0, n1) Q 15 [none, none, none, none, none, none, none] [] w) : Wp (Cw d) cd_X_way (1, 0, n1) Q 12 [mR 0, mI x1, mI x2, mI x3, none, none, none] [] w :=
  Wp.s (Wp.s (Wp.s ⟨fun q => h1 q, fun q => Wp.fgd (leA.f (leA.f (leA.f (leA.f (leA.f (leA.f (leA.f leA.e))))))) (h2 q)⟩))
theorem X_way_0_b15 {d : Nat} {n1 : Int} {Q : MV → Wd → Prop} {w : Wd} (h : Q (mI ((-1))) w) : Wp (Cw d) cd_X_way (1, 0, n1) Q 15 [none, none, none, none, none, none, none] [] w :=
  Wp.s (Wp.s h)
theorem X_way_0_b17 {d : Nat} {n1 : Int} {Q : MV → Wd → Prop} {x1 x2 x3 : Int} {w : Wd} (h : Cw d 55 [mR 0] w (fun r w' => Wp (Cw d) cd_X_way (1, 0, n1) Q 19 [mR 0, mI x1, mI x2, mI x3, none, none, none] [r] w')) : Wp (Cw d) cd_X_way (1, 0, n1) Q 17 [mR 0, mI x1, mI x2, mI x3, none, none, none] [] w :=
  Wp.s (Wp.s h)
theorem X_way_0_b19 {d : Nat} {n1 : Int} {Q : MV → Wd → Prop} {x1 x2 x3 : Int} {w : Wd} (h : Cw d 77 [mR 92, mI x1, mI x2] w (fun r w' => Wp (Cw d) cd_X_way (1, 0, n1) Q 24 [mR 0, none, none, mI x3, mR 92, none, none] [r] w')) : Wp (Cw d) cd_X_way (1, 0, n1) Q 19 [mR 0, mI x1, mI x2, mI x3, none, none, none] [mR 92] w :=
  Wp.s (Wp.s (Wp.s (Wp.s (Wp.s (Cw_mono _ _ _ _ _ _ (fun r w' q => Wp.fgd (leA.k (leA.f (leA.f (leA.k (leA.k (leA.f (leA.f leA.e))))))) q) h)))))
theorem X_way_0_b24 {d : Nat} {n1 : Int} {Q : MV → Wd → Prop} {x3 s0 : Int} {w : Wd} (h1 : ¬ cmp3 s0 9223372036854775807 = 0 → Wp (Cw d) cd_X_way (1, 0, n1) Q 31 [mR 0, none, none, mI x3, mR 92, mL s0, none] [] w) (h2 : ¬ (¬ cmp3 s0 9223372036854775807 = 0) → Wp (Cw d) cd_X_way (1, 0, n1) Q 29 [none, none, none, none, none, none, none] [] w) : Wp (Cw d) cd_X_way (1, 0, n1) Q 24 [mR 0, none, none, mI x3, mR 92, none, none] [mL s0] w :=
  Wp.s (Wp.s (Wp.s (Wp.s (Wp.s ⟨fun q => h1 q, fun q => Wp.fgd (leA.f (leA.f (leA.f (leA.f (leA.f (leA.f (leA.f leA.e))))))) (h2 q)⟩))))
theorem X_way_0_b29 {d : Nat} {n1 : Int} {Q : MV → Wd → Prop} {w : Wd} (h : Q (mI ((-1))) w) : Wp (Cw d) cd_X_way (1, 0, n1) Q 29 [none, none, none, none, none, none, none] [] w :=
  Wp.s (Wp.s h)
theorem X_way_0_b31 {d : Nat} {n1 : Int} {Q : MV → Wd → Prop} {x3 x5 : Int} {w : Wd} (h : Cw d 80 [mL x5] w (fun r w' => Wp (Cw d) cd_X_way (1, 0, n1) Q 35 [mR 0, none, none, mI x3, mR 92, mL x5, none] [r, mR 140] w')) : Wp (Cw d) cd_X_way (1, 0, n1) Q 31 [mR 0, none, none, mI x3, mR 92, mL x5, none] [] w :=
  Wp.s (Wp.s (Wp.s (Wp.s h)))
theorem X_way_0_b35 {d : Nat} {n1 : Int} {Q : MV → Wd → Prop} {x3 x5 s0 : Int} {w : Wd} (h : Cw d 81 [mR 140, mI s0, mI (w 4 15)] w (fun _ w' => Wp (Cw d) cd_X_way (1, 0, n1) Q 39 [none, none, none, mI x3, mR 92, mL x5, none] [] w')) : Wp (Cw d) cd_X_way (1, 0, n1) Q 35 [mR 0, none, none, mI x3, mR 92, mL x5, none] [mI s0, mR 140] w :=
  Wp.s (Wp.s (Wp.s (Wp.s (Cw_mono _ _ _ _ _ _ (fun r w' q => Wp.fgd (leA.f (leA.f (leA.f (leA.k (leA.k (leA.k (leA.f leA.e))))))) q) h))))
theorem X_way_0_b39 {d : Nat} {n1 : Int} {Q : MV → Wd → Prop} {x3 x5 : Int} {w : Wd} (h1 : ¬ x3 = 0 → Wp (Cw d) cd_X_way (1, 0, n1) Q 44 [none, none, none, mI x3, mR 92, mL x5, none] [] w) (h2 : ¬ (¬ x3 = 0) → Wp (Cw d) cd_X_way (1, 0, n1) Q 41 [none, none, none, none, none, mL x5, none] [] w) : Wp (Cw d) cd_X_way (1, 0, n1) Q 39 [none, none, none, mI x3, mR 92, mL x5, none] [] w :=
  Wp.s (Wp.s ⟨fun q => h1 q, fun q => Wp.fgd (leA.f (leA.f (leA.f (leA.f (leA.f (leA.k (leA.f leA.e))))))) (h2 q)⟩)
theorem X_way_0_b41 {d : Nat} {n1 : Int} {Q : MV → Wd → Prop} {x5 : Int} {w : Wd} (h : Cw d 78 [mL x5] w (fun r w' => Wp (Cw d) cd_X_way (1, 0, n1) Q 43 [none, none, none, none, none, none, none] [r] w')) : Wp (Cw d) cd_X_way (1, 0, n1) Q 41 [none, none, none, none, none, mL x5, none] [] w :=
  Wp.s (Wp.s (Cw_mono _ _ _ _ _ _ (fun r w' q => Wp.fgd (leA.f (leA.f (leA.f (leA.f (leA.f (leA.f (leA.f leA.e))))))) q) h))
theorem X_way_0_b43 {d : Nat} {n1 : Int} {Q : MV → Wd → Prop} {s0 : Int} {w : Wd} (h : Q (mI s0) w) : Wp (Cw d) cd_X_way (1, 0, n1) Q 43 [none, none, none, none, none, none, none] [mI s0] w :=
  Wp.s h
theorem X_way_0_b44 {d : Nat} {n1 : Int} {Q : MV → Wd → Prop} {x3 x5 : Int} {w : Wd} (h1 : ¬ x3 = 1 → Wp (Cw d) cd_X_way (1, 0, n1) Q 50 [none, none, none, none, mR 92, mL x5, none] [] w) (h2 : ¬ (¬ x3 = 1) → Wp (Cw d) cd_X_way (1, 0, n1) Q 47 [none, none, none, none, none, mL x5, none] [] w) : Wp (Cw d) cd_X_way (1, 0, n1) Q 44 [none, none, none, mI x3, mR 92, mL x5, none] [] w :=
  Wp.s (Wp.s (Wp.s ⟨fun q => Wp.fgd (leA.f (leA.f (leA.f (leA.f (leA.k (leA.k (leA.f leA.e))))))) (h1 q), fun q => Wp.fgd (leA.f (leA.f (leA.f (leA.f (leA.f (leA.k (leA.f leA.e))))))) (h2 q)⟩))
theorem X_way_0_b47 {d : Nat} {n1 : Int} {Q : MV → Wd → Prop} {x5 : Int} {w : Wd} (h : Cw d 83 [mL x5] w (fun r w' => Wp (Cw d) cd_X_way (1, 0, n1) Q 49 [none, none, none, none, none, none, none] [r] w')) : Wp (Cw d) cd_X_way (1, 0, n1) Q 47 [none, none, none, none, none, mL x5, none] [] w :=
  Wp.s (Wp.s (Cw_mono _ _ _ _ _ _ (fun r w' q => Wp.fgd (leA.f (leA.f (leA.f (leA.f (leA.f (leA.f (leA.f leA.e))))))) q) h))
theorem X_way_0_b49 {d : Nat} {n1 : Int} {Q : MV → Wd → Prop} {s0 : Int} {w : Wd} (h : Wp (Cw d) cd_X_way (1, 0, n1) Q 54 [none, none, none, none, none, none, none] [mI s0] w) : Wp (Cw d) cd_X_way (1, 0, n1) Q 49 [none, none, none, none, none, none, none] [mI s0] w :=
  Wp.s h
theorem X_way_0_b50 {d : Nat} {n1 : Int} {Q : MV → Wd → Prop} {x5 : Int} {w : Wd} (h : Cw d 84 [mR 93, mL x5] w (fun r w' => Wp (Cw d) cd_X_way (1, 0, n1) Q 54 [none, none, none, none, none, none, none] [r] w')) : Wp (Cw d) cd_X_way (1, 0, n1) Q 50 [none, none, none, none, mR 92, mL x5, none] [] w :=
  Wp.s (Wp.s (Wp.s (Wp.s (Cw_mono _ _ _ _ _ _ (fun r w' q => Wp.fgd (leA.f (leA.f (leA.f (leA.f (leA.f (leA.f (leA.f leA.e))))))) q) h))))
theorem X_way_0_b54 {d : Nat} {n1 : Int} {Q : MV → Wd → Prop} {s0 : Int} {w : Wd} (h : Q (mI s0) w) : Wp (Cw d) cd_X_way (1, 0, n1) Q 54 [none, none, none, none, none, none, none] [mI s0] w :=
  Wp.s h
theorem M_way_144_b0 {d : Nat} {n1 : Int} {Q : MV → Wd → Prop} {x1 x2 x3 : Int} {w : Wd} (h : Cw d 199 [mR 144, mI x1] (ub w 144 0 0) (fun r w' => Wp (Cw d) cd_M_way (1, 0, n1) Q 6 [mR 144, mI x1, mI x2, mI x3] [r] w')) : Wp (Cw d) cd_M_way (1, 0, n1) Q 0 [mR 144, mI x1, mI x2, mI x3] [] w :=
  Wp.s (Wp.s (Wp.s (Wp.s (Wp.s (Wp.s h)))))
theorem M_way_144_b6 {d : Nat} {n1 : Int} {Q : MV → Wd → Prop} {x1 x2 x3 s0 : Int} {w : Wd} (h1 : s0 = 0 → Wp (Cw d) cd_M_way (1, 0, n1) Q 16 [none, none, none, none] [] w) (h2 : ¬ (s0 = 0) → Wp (Cw d) cd_M_way (1, 0, n1) Q 7 [mR 144, mI x1, mI x2, mI x3] [] w) : Wp (Cw d) cd_M_way (1, 0, n1) Q 6 [mR 144, mI x1, mI x2, mI x3] [mI s0] w :=
  Wp.s ⟨fun q => Wp.fgd (leA.f (leA.f (leA.f (leA.f leA.e)))) (h1 q), fun q => h2 q⟩
theorem M_way_144_b7 {d : Nat} {n1 : Int} {Q : MV → Wd → Prop} {x1 x2 x3 : Int} {w : Wd} (h : Cw d 204 [mR 144, mI x2] w (fun r w' => Wp (Cw d) cd_M_way (1, 0, n1) Q 10 [mR 144, mI x1, mI x2, mI x3] [r] w')) : Wp (Cw d) cd_M_way (1, 0, n1) Q 7 [mR 144, mI x1, mI x2, mI x3] [] w :=
  Wp.s (Wp.s (Wp.s h))
theorem M_way_144_b10 {d : Nat} {n1 : Int} {Q : MV → Wd → Prop} {x1 x2 x3 s0 : Int} {w : Wd} (h1 : s0 = 0 → Wp (Cw d) cd_M_way (1, 0, n1) Q 16 [none, none, none, none] [] w) (h2 : ¬ (s0 = 0) → Wp (Cw d) cd_M_way (1, 0, n1) Q 11 [mR 144, mI x1, mI x2, mI x3] [] w) : Wp (Cw d) cd_M_way (1, 0, n1) Q 10 [mR 144, mI x1, mI x2, mI x3] [mI s0] w :=
  Wp.s ⟨fun q => Wp.fgd (leA.f (leA.f (leA.f (leA.f leA.e)))) (h1 q), fun q => h2 q⟩
theorem M_way_144_b11 {d : Nat} {n1 : Int} {Q : MV → Wd → Prop} {x1 x2 x3 : Int} {w : Wd} (h : Cw d 187 [mI x3, mI 0, mI 2] w (fun r w' => Wp (Cw d) cd_M_way (1, 0, n1) Q 15 [mR 144, mI x1, mI x2, mI x3] [r] w')) : Wp (Cw d) cd_M_way (1, 0, n1) Q 11 [mR 144, mI x1, mI x2, mI x3] [] w :=
  Wp.s (Wp.s (Wp.s (Wp.s h)))
theorem M_way_144_b15 {d : Nat} {n1 : Int} {Q : MV → Wd → Prop} {x1 x2 x3 s0 : Int} {w : Wd} (h1 : ¬ s0 = 0 → Wp (Cw d) cd_M_way (1, 0, n1) Q 18 [mR 144, mI x1, mI x2, mI x3] [] w) (h2 : ¬ (¬ s0 = 0) → Wp (Cw d) cd_M_way (1, 0, n1) Q 16 [none, none, none, none] [] w) : Wp (Cw d) cd_M_way (1, 0, n1) Q 15 [mR 144, mI x1, mI x2, mI x3] [mI s0] w :=
  Wp.s ⟨fun q => h1 q, fun q => Wp.fgd (leA.f (leA.f (leA.f (leA.f leA.e)))) (h2 q)⟩
theorem M_way_144_b16 {d : Nat} {n1 : Int} {Q : MV → Wd → Prop} {w : Wd} (h : Q (mI ((-1))) w) : Wp (Cw d) cd_M_way (1, 0, n1) Q 16 [none, none, none, none] [] w :=
  Wp.s (Wp.s h)
theorem M_way_144_b18 {d : Nat} {n1 : Int} {Q : MV → Wd → Prop} {x1 x2 x3 : Int} {w : Wd} (h : Cw d 208 [mR 144] w (fun _ w' => Wp (Cw d) cd_M_way (1, 0, n1) Q 20 [mR 144, mI x1, mI x2, mI x3] [] w')) : Wp (Cw d) cd_M_way (1, 0, n1) Q 18 [mR 144, mI x1, mI x2, mI x3] [] w :=
  Wp.s (Wp.s h)
theorem M_way_144_b20 {d : Nat} {n1 : Int} {Q : MV → Wd → Prop} {x1 x2 x3 : Int} {w : Wd} (h : Cw d 209 [mR 144] w (fun _ w' => Wp (Cw d) cd_M_way (1, 0, n1) Q 22 [mR 144, mI x1, mI x2, mI x3] [] w')) : Wp (Cw d) cd_M_way (1, 0, n1) Q 20 [mR 144, mI x1, mI x2, mI x3] [] w :=
  Wp.s (Wp.s h)
theorem M_way_144_b22 {d : Nat} {n1 : Int} {Q : MV → Wd → Prop} {x1 x2 x3 : Int} {w : Wd} (h : Cw d 220 [mR 144, mI x1, mI x2] w (fun r w' => Wp (Cw d) cd_M_way (1, 0, n1) Q 26 [mR 144, mI x1, mI x2, mI x3] [r] w')) : Wp (Cw d) cd_M_way (1, 0, n1) Q 22 [mR 144, mI x1, mI x2, mI x3] [] w :=
  Wp.s (Wp.s (Wp.s (Wp.s h)))
theorem M_way_144_b26 {d : Nat} {n1 : Int} {Q : MV → Wd → Prop} {x1 x2 x3 s0 : Int} {w : Wd} (h1 : ¬ s0 = 0 → Wp (Cw d) cd_M_way (1, 0, n1) Q 29 [mR 144, mI x1, mI x2, mI x3] [] w) (h2 : ¬ (¬ s0 = 0) → Wp (Cw d) cd_M_way (1, 0, n1) Q 27 [none, none, none, none] [] w) : Wp (Cw d) cd_M_way (1, 0, n1) Q 26 [mR 144, mI x1, mI x2, mI x3] [mI s0] w :=
  Wp.s ⟨fun q => h1 q, fun q => Wp.fgd (leA.f (leA.f (leA.f (leA.f leA.e)))) (h2 q)⟩
theorem M_way_144_b27 {d : Nat} {n1 : Int} {Q : MV → Wd → Prop} {w : Wd} (h : Q (mI ((-1))) w) : Wp (Cw d) cd_M_way (1, 0, n1) Q 27 [none, none, none, none] [] w :=
  Wp.s (Wp.s h)
theorem M_way_144_b29 {d : Nat} {n1 : Int} {Q : MV → Wd → Prop} {x1 x2 x3 : Int} {w : Wd} (g1 : (0 : Int) ≤ w32 ((w32 (8 * x1)) + x2) ∧ w32 ((w32 (8 * x1)) + x2) < 128) (h1 : ¬ x3 = 0 → Wp (Cw d) cd_M_way (1, 0, n1) Q 54 [mR 144, mI x1, mI x2, mI x3] [] (ub (ub w 144 41 (w 164 (w32 ((w32 (8 * x1)) + x2)).toNat)) 144 42 ((up1 (w 144) 41 (w 164 (w32 ((w32 (8 * x1)) + x2)).toNat)) 25))) (h2 : ¬ (¬ x3 = 0) → Wp (Cw d) cd_M_way (1, 0, n1) Q 45 [mR 144, mI x1, mI x2, none] [] (ub (ub w 144 41 (w 164 (w32 ((w32 (8 * x1)) + x2)).toNat)) 144 42 ((up1 (w 144) 41 (w 164 (w32 ((w32 (8 * x1)) + x2)).toNat)) 25))) : Wp (Cw d) cd_M_way (1, 0, n1) Q 29 [mR 144, mI x1, mI x2, mI x3] [] w :=
  Wp.s (Wp.s (Wp.s (Wp.s (Wp.s (Wp.s (Wp.s (Wp.s (Wp.s ⟨g1, Wp.s (Wp.s (Wp.s (Wp.s (Wp.s (Wp.s (Wp.s ⟨fun q => h1 q, fun q => Wp.fgd (leA.k (leA.k (leA.k (leA.f leA.e)))) (h2 q)⟩))))))⟩))))))))
theorem M_way_144_b45 {d : Nat} {n1 : Int} {Q : MV → Wd → Prop} {x1 x2 : Int} {w : Wd} (g1 : (0 : Int) ≤ w32 ((w32 (8 * x1)) + x2) ∧ w32 ((w32 (8 * x1)) + x2) < 128) (h : Wp (Cw d) cd_M_way (1, 0, n1) Q 74 [none, none, none, none] [mI (w 161 (w32 ((w32 (8 * x1)) + x2)).toNat)] w) : Wp (Cw d) cd_M_way (1, 0, n1) Q 45 [mR 144, mI x1, mI x2, none] [] w :=
  Wp.s (Wp.s (Wp.s (Wp.s (Wp.s (Wp.s (Wp.s (Wp.s ⟨g1, Wp.s (Wp.fgd (leA.f (leA.f (leA.f (leA.f leA.e)))) h)⟩)))))))
theorem M_way_144_b54 {d : Nat} {n1 : Int} {Q : MV → Wd → Prop} {x1 x2 x3 : Int} {w : Wd} (h1 : ¬ x3 = 1 → Wp (Cw d) cd_M_way (1, 0, n1) Q 66 [mR 144, mI x1, mI x2, none] [] w) (h2 : ¬ (¬ x3 = 1) → Wp (Cw d) cd_M_way (1, 0, n1) Q 57 [mR 144, mI x1, mI x2, none] [] w) : Wp (Cw d) cd_M_way (1, 0, n1) Q 54 [mR 144, mI x1, mI x2, mI x3] [] w :=
  Wp.s (Wp.s (Wp.s ⟨fun q => Wp.fgd (leA.k (leA.k (leA.k (leA.f leA.e)))) (h1 q), fun q => Wp.fgd (leA.k (leA.k (leA.k (leA.f leA.e)))) (h2 q)⟩))
theorem M_way_144_b57 {d : Nat} {n1 : Int} {Q : MV → Wd → Prop} {x1 x2 : Int} {w : Wd} (g1 : (0 : Int) ≤ w32 ((w32 (8 * x1)) + x2) ∧ w32 ((w32 (8 * x1)) + x2) < 128) (h : Wp (Cw d) cd_M_way (1, 0, n1) Q 74 [none, none, none, none] [mI (w 162 (w32 ((w32 (8 * x1)) + x2)).toNat)] w) : Wp (Cw d) cd_M_way (1, 0, n1) Q 57 [mR 144, mI x1, mI x2, none] [] w :=
  Wp.s (Wp.s (Wp.s (Wp.s (Wp.s (Wp.s (Wp.s (Wp.s ⟨g1, Wp.s (Wp.fgd (leA.f (leA.f (leA.f (leA.f leA.e)))) h)⟩)))))))
theorem M_way_144_b66 {d : Nat} {n1 : Int} {Q : MV → Wd → Prop} {x1 x2 : Int} {w : Wd} (g1 : (0 : Int) ≤ w32 ((w32 (8 * x1)) + x2) ∧ w32 ((w32 (8 * x1)) + x2) < 128) (h : Wp (Cw d) cd_M_way (1, 0, n1) Q 74 [none, none, none, none] [mI (w 163 (w32 ((w32 (8 * x1)) + x2)).toNat)] w) : Wp (Cw d) cd_M_way (1, 0, n1) Q 66 [mR 144, mI x1, mI x2, none] [] w :=
  Wp.s (Wp.s (Wp.s (Wp.s (Wp.s (Wp.s (Wp.s (Wp.s ⟨g1, Wp.fgd (leA.f (leA.f (leA.f (leA.f leA.e)))) h⟩)))))))
theorem M_way_144_b74 {d : Nat} {n1 : Int} {Q : MV → Wd → Prop} {s0 : Int} {w : Wd} (h : Q (mI s0) w) : Wp (Cw d) cd_M_way (1, 0, n1) Q 74 [none, none, none, none] [mI s0] w :=
  Wp.s h
theorem X_hand_0_b0 {d : Nat} {n1 : Int} {Q : MV → Wd → Prop} {x1 : Int} {w : Wd} (h1 : x1 < 0 → Wp (Cw d) cd_X_hand (1, 0, n1) Q 7 [none, none] [] w) (h2 : ¬ (x1 < 0) → Wp (Cw d) cd_X_hand (1, 0, n1) Q 2 [mR 0, mI x1] [] w) : Wp (Cw d) cd_X_hand (1, 0, n1) Q 0 [mR 0, mI x1] [] w :=
  Wp.s (Wp.s ⟨fun q => Wp.fgd (leA.f (leA.f leA.e)) (h1 q), fun q => h2 q⟩)
theorem X_hand_0_b2 {d : Nat} {n1 : Int} {Q : MV → Wd → Prop} {x1 : Int} {w : Wd} (h1 : x1 < w 140 1 → Wp (Cw d) cd_X_hand (1, 0, n1) Q 9 [mR 0, mI x1] [] w) (h2 : ¬ (x1 < w 140 1) → Wp (Cw d) cd_X_hand (1, 0, n1) Q 7 [none, none] [] w) : Wp (Cw d) cd_X_hand (1, 0, n1) Q 2 [mR 0, mI x1] [] w :=
  Wp.s (Wp.s (Wp.s (Wp.s (Wp.s ⟨fun q => h1 q, fun q => Wp.fgd (leA.f (leA.f leA.e)) (h2 q)⟩))))
theorem X_hand_0_b7 {d : Nat} {n1 : Int} {Q : MV → Wd → Prop} {w : Wd} (h : Wp (Cw d) cd_X_hand (1, 0, n1) Q 14 [none, none] [mI ((-1))] w) : Wp (Cw d) cd_X_hand (1, 0, n1) Q 7 [none, none] [] w :=
  Wp.s (Wp.s h)
theorem X_hand_0_b9 {d : Nat} {n1 : Int} {Q : MV → Wd → Prop} {x1 : Int} {w : Wd} (g1 : (0 : Int) ≤ x1 ∧ x1 < 6) (h : Wp (Cw d) cd_X_hand (1, 0, n1) Q 14 [none, none] [mI (w 141 x1.toNat)] w) : Wp (Cw d) cd_X_hand (1, 0, n1) Q 9 [mR 0, mI x1] [] w :=
  Wp.s (Wp.s (Wp.s (Wp.s (Wp.s ⟨g1, Wp.fgd (leA.f (leA.f leA.e)) h⟩))))
theorem X_hand_0_b14 {d : Nat} {n1 : Int} {Q : MV → Wd → Prop} {s0 : Int} {w : Wd} (h : Q (mI s0) w) : Wp (Cw d) cd_X_hand (1, 0, n1) Q 14 [none, none] [mI s0] w :=
  Wp.s h
theorem M_hand_144_b0 {d : Nat} {n1 : Int} {Q : MV → Wd → Prop} {x1 : Int} {w : Wd} (h : Cw d 187 [mI x1, mI 0, mI (w32 (((up1 (w 144) 0 0) 42) - 1))] (ub w 144 0 0) (fun r w' => Wp (Cw d) cd_M_hand (1, 0, n1) Q 10 [mR 144, mI x1] [r] w')) : Wp (Cw d) cd_M_hand (1, 0, n1) Q 0 [mR 144, mI x1] [] w :=
  Wp.s (Wp.s (Wp.s (Wp.s (Wp.s (Wp.s (Wp.s (Wp.s (Wp.s (Wp.s h)))))))))
theorem M_hand_144_b10 {d : Nat} {n1 : Int} {Q : MV → Wd → Prop} {x1 s0 : Int} {w : Wd} (h1 : s0 = 0 → Wp (Cw d) cd_M_hand (1, 0, n1) Q 20 [none, none] [] w) (h2 : ¬ (s0 = 0) → Wp (Cw d) cd_M_hand (1, 0, n1) Q 11 [mR 144, mI x1] [] w) : Wp (Cw d) cd_M_hand (1, 0, n1) Q 10 [mR 144, mI x1] [mI s0] w :=
  Wp.s ⟨fun q => Wp.fgd (leA.f (leA.f leA.e)) (h1 q), fun q => h2 q⟩
theorem M_hand_144_b11 {d : Nat} {n1 : Int} {Q : MV → Wd → Prop} {x1 : Int} {w : Wd} (h : Wp (Cw d) cd_M_hand (1, 0, n1) Q 21 [none, none] [mI (iand (ishr (w 144 41) (w32 (3 * x1))) 7)] w) : Wp (Cw d) cd_M_hand (1, 0, n1) Q 11 [mR 144, mI x1] [] w :=
  Wp.s (Wp.s (Wp.s (Wp.s (Wp.s (Wp.s (Wp.s (Wp.s (Wp.s (Wp.fgd (leA.f (leA.f leA.e)) h)))))))))
theorem M_hand_144_b20 {d : Nat} {n1 : Int} {Q : MV → Wd → Prop} {w : Wd} (h : Wp (Cw d) cd_M_hand (1, 0, n1) Q 21 [none, none] [mI ((-1))] w) : Wp (Cw d) cd_M_hand (1, 0, n1) Q 20 [none, none] [] w :=
  Wp.s h
theorem M_hand_144_b21 {d : Nat} {n1 : Int} {Q : MV → Wd → Prop} {s0 : Int} {w : Wd} (h : Q (mI s0) w) : Wp (Cw d) cd_M_hand (1, 0, n1) Q 21 [none, none] [mI s0] w :=
  Wp.s h
theorem X_most_0_b0 {d : Nat} {n1 : Int} {Q : MV → Wd → Prop} {w : Wd} (h : Cw d 55 [mR 0] w (fun r w' => Wp (Cw d) cd_X_most (1, 0, n1) Q 2 [none] [r] w')) : Wp (Cw d) cd_X_most (1, 0, n1) Q 0 [mR 0] [] w :=
  Wp.s (Wp.s (Cw_mono _ _ _ _ _ _ (fun r w' q => Wp.fgd (leA.f leA.e) q) h))
theorem X_most_0_b2 {d : Nat} {n1 : Int} {Q : MV → Wd → Prop} {w : Wd} (h : Cw d 87 [mR 92] w (fun r w' => Wp (Cw d) cd_X_most (1, 0, n1) Q 3 [none] [r] w')) : Wp (Cw d) cd_X_most (1, 0, n1) Q 2 [none] [mR 92] w :=
  Wp.s h
theorem X_most_0_b3 {d : Nat} {n1 : Int} {Q : MV → Wd → Prop} {s0 : Int} {w : Wd} (h : Q (mI s0) w) : Wp (Cw d) cd_X_most (1, 0, n1) Q 3 [none] [mI s0] w :=
  Wp.s h
theorem M_most_144_b0 {d : Nat} {n1 : Int} {Q : MV → Wd → Prop} {w : Wd} (h : Cw d 208 [mR 144] (ub w 144 0 0) (fun _ w' => Wp (Cw d) cd_M_most (1, 0, n1) Q 5 [mR 144] [] w')) : Wp (Cw d) cd_M_most (1, 0, n1) Q 0 [mR 144] [] w :=
  Wp.s (Wp.s (Wp.s (Wp.s (Wp.s h))))
theorem M_most_144_b5 {d : Nat} {n1 : Int} {Q : MV → Wd → Prop} {w : Wd} (h : Cw d 209 [mR 144] w (fun _ w' => Wp (Cw d) cd_M_most (1, 0, n1) Q 7 [mR 144] [] w')) : Wp (Cw d) cd_M_most (1, 0, n1) Q 5 [mR 144] [] w :=
  Wp.s (Wp.s h)
theorem M_most_144_b7 {d : Nat} {n1 : Int} {Q : MV → Wd → Prop} {w : Wd} (h : Cw d 223 [mR 144] w (fun r w' => Wp (Cw d) cd_M_most (1, 0, n1) Q 9 [none] [r] w')) : Wp (Cw d) cd_M_most (1, 0, n1) Q 7 [mR 144] [] w :=
  Wp.s (Wp.s (Cw_mono _ _ _ _ _ _ (fun r w' q => Wp.fgd (leA.f leA.e) q) h))
theorem M_most_144_b9 {d : Nat} {n1 : Int} {Q : MV → Wd → Prop} {s0 : Int} {w : Wd} (h : Q (mI s0) w) : Wp (Cw d) cd_M_most (1, 0, n1) Q 9 [none] [mI s0] w :=
  Wp.s h
theorem X_bars_0_b0 {d : Nat} {n1 : Int} {Q : MV → Wd → Prop} {w : Wd} (h : Cw d 55 [mR 0] w (fun r w' => Wp (Cw d) cd_X_bars (1, 0, n1) Q 2 [none] [r] w')) : Wp (Cw d) cd_X_bars (1, 0, n1) Q 0 [mR 0] [] w :=
  Wp.s (Wp.s (Cw_mono _ _ _ _ _ _ (fun r w' q => Wp.fgd (leA.f leA.e) q) h))
theorem X_bars_0_b2 {d : Nat} {n1 : Int} {Q : MV → Wd → Prop} {w : Wd} (h : Cw d 90 [mR 92] w (fun r w' => Wp (Cw d) cd_X_bars (1, 0, n1) Q 3 [none] [r] w')) : Wp (Cw d) cd_X_bars (1, 0, n1) Q 2 [none] [mR 92] w :=
  Wp.s h
theorem X_bars_0_b3 {d : Nat} {n1 : Int} {Q : MV → Wd → Prop} {s0 : Int} {w : Wd} (h : Q (mI s0) w) : Wp (Cw d) cd_X_bars (1, 0, n1) Q 3 [none] [mI s0] w :=
  Wp.s h
theorem M_bars_144_b0 {d : Nat} {n1 : Int} {Q : MV → Wd → Prop} {w : Wd} (h : Cw d 208 [mR 144] (ub w 144 0 0) (fun _ w' => Wp (Cw d) cd_M_bars (1, 0, n1) Q 5 [mR 144, none, none, none, none, none, none] [] w')) : Wp (Cw d) cd_M_bars (1, 0, n1) Q 0 [mR 144, none, none, none, none, none, none] [] w :=
  Wp.s (Wp.s (Wp.s (Wp.s (Wp.s h))))
theorem M_bars_144_b5 {d : Nat} {n1 : Int} {Q : MV → Wd → Prop} {w : Wd} (h : Cw d 209 [mR 144] w (fun _ w' => Wp (Cw d) cd_M_bars (1, 0, n1) Q 7 [mR 144, none, none, none, none, none, none] [] w')) : Wp (Cw d) cd_M_bars (1, 0, n1) Q 5 [mR 144, none, none, none, none, none, none] [] w :=
  Wp.s (Wp.s h)
theorem M_bars_144_b7 {d : Nat} {n1 : Int} {Q : MV → Wd → Prop} {w : Wd} (h : Wp (Cw d) cd_M_bars (1, 0, n1) Q 11 [mR 144, mI 0, mI 1, none, none, none, none] [] w) : Wp (Cw d) cd_M_bars (1, 0, n1) Q 7 [mR 144, none, none, none, none, none, none] [] w :=
  Wp.s (Wp.s (Wp.s (Wp.s h)))
theorem M_bars_144_b11 {d : Nat} {n1 : Int} {Q : MV → Wd → Prop} {x1 x2 : Int} {w : Wd} (h1 : ishl 1 (w 146 3.toNat) ≤ x2 → Wp (Cw d) cd_M_bars (1, 0, n1) Q 81 [none, mI x1, none, none, none, none, none] [] w) (h2 : ¬ (ishl 1 (w 146 3.toNat) ≤ x2) → Wp (Cw d) cd_M_bars (1, 0, n1) Q 19 [mR 144, mI x1, mI x2, none, none, none, none] [] w) : Wp (Cw d) cd_M_bars (1, 0, n1) Q 11 [mR 144, mI x1, mI x2, none, none, none, none] [] w :=
  Wp.s (Wp.s (Wp.s (Wp.s (Wp.s (Wp.s ⟨(by decide), Wp.s (Wp.s ⟨fun q => Wp.fgd (leA.f (leA.k (leA.f (leA.f (leA.f (leA.f (leA.f leA.e))))))) (h1 q), fun q => h2 q⟩)⟩)))))
theorem M_bars_144_b19 {d : Nat} {n1 : Int} {Q : MV → Wd → Prop} {x1 x2 : Int} {w : Wd} (h : Wp (Cw d) cd_M_bars (1, 0, n1) Q 23 [mR 144, mI x1, mI x2, mI 0, mI 0, none, none] [] w) : Wp (Cw d) cd_M_bars (1, 0, n1) Q 19 [mR 144, mI x1, mI x2, none, none, none, none] [] w :=
  Wp.s (Wp.s (Wp.s (Wp.s h)))
theorem M_bars_144_b23 {d : Nat} {n1 : Int} {Q : MV → Wd → Prop} {x1 x2 x3 x4 : Int} {w : Wd} (h1 : w 146 2.toNat ≤ x4 → Wp (Cw d) cd_M_bars (1, 0, n1) Q 66 [mR 144, mI x1, mI x2, mI x3, none, none, none] [] w) (h2 : ¬ (w 146 2.toNat ≤ x4) → Wp (Cw d) cd_M_bars (1, 0, n1) Q 29 [mR 144, mI x1, mI x2, mI x3, mI x4, none, none] [] w) : Wp (Cw d) cd_M_bars (1, 0, n1) Q 23 [mR 144, mI x1, mI x2, mI x3, mI x4, none, none] [] w :=
  Wp.s (Wp.s (Wp.s (Wp.s (Wp.s ⟨(by decide), Wp.s ⟨fun q => Wp.fgd (leA.k (leA.k (leA.k (leA.k (leA.f (leA.f (leA.f leA.e))))))) (h1 q), fun q => h2 q⟩⟩))))
theorem M_bars_144_b29 {d : Nat} {n1 : Int} {Q : MV → Wd → Prop} {x1 x2 x3 x4 : Int} {w : Wd} (h : Wp (Cw d) cd_M_bars (1, 0, n1) Q 33 [mR 144, mI x1, mI x2, mI x3, mI x4, mI 0, mI 0] [] w) : Wp (Cw d) cd_M_bars (1, 0, n1) Q 29 [mR 144, mI x1, mI x2, mI x3, mI x4, none, none] [] w :=
  Wp.s (Wp.s (Wp.s (Wp.s h)))
theorem M_bars_144_b33 {d : Nat} {n1 : Int} {Q : MV → Wd → Prop} {x1 x2 x3 x4 x5 x6 : Int} {w : Wd} (h1 : w 146 3.toNat ≤ x6 → Wp (Cw d) cd_M_bars (1, 0, n1) Q 56 [mR 144, mI x1, mI x2, mI x3, mI x4, mI x5, none] [] w) (h2 : ¬ (w 146 3.toNat ≤ x6) → Wp (Cw d) cd_M_bars (1, 0, n1) Q 39 [mR 144, mI x1, mI x2, mI x3, mI x4, mI x5, mI x6] [] w) : Wp (Cw d) cd_M_bars (1, 0, n1) Q 33 [mR 144, mI x1, mI x2, mI x3, mI x4, mI x5, mI x6] [] w :=
  Wp.s (Wp.s (Wp.s (Wp.s (Wp.s ⟨(by decide), Wp.s ⟨fun q => Wp.fgd (leA.k (leA.k (leA.k (leA.k (leA.k (leA.k (leA.f leA.e))))))) (h1 q), fun q => h2 q⟩⟩))))
theorem M_bars_144_b39 {d : Nat} {n1 : Int} {Q : MV → Wd → Prop} {x1 x2 x3 x4 x5 x6 : Int} {w : Wd} (h1 : ¬ x5 = 0 → Wp (Cw d) cd_M_bars (1, 0, n1) Q 50 [mR 144, mI x1, mI x2, mI x3, mI x4, none, mI x6] [] w) (h2 : ¬ (¬ x5 = 0) → Wp (Cw d) cd_M_bars (1, 0, n1) Q 41 [mR 144, mI x1, mI x2, mI x3, mI x4, none, mI x6] [] w) : Wp (Cw d) cd_M_bars (1, 0, n1) Q 39 [mR 144, mI x1, mI x2, mI x3, mI x4, mI x5, mI x6] [] w :=
  Wp.s (Wp.s ⟨fun q => Wp.fgd (leA.k (leA.k (leA.k (leA.k (leA.k (leA.f (leA.k leA.e))))))) (h1 q), fun q => Wp.fgd (leA.k (leA.k (leA.k (leA.k (leA.k (leA.f (leA.k leA.e))))))) (h2 q)⟩)
theorem M_bars_144_b41 {d : Nat} {n1 : Int} {Q : MV → Wd → Prop} {x1 x2 x3 x4 x6 : Int} {w : Wd} (h : Cw d 211 [mI x2, mI x6] w (fun r w' => Wp (Cw d) cd_M_bars (1, 0, n1) Q 44 [mR 144, mI x1, mI x2, mI x3, mI x4, none, mI x6] [r] w')) : Wp (Cw d) cd_M_bars (1, 0, n1) Q 41 [mR 144, mI x1, mI x2, mI x3, mI x4, none, mI x6] [] w :=
  Wp.s (Wp.s (Wp.s h))
theorem M_bars_144_b44 {d : Nat} {n1 : Int} {Q : MV → Wd → Prop} {x1 x2 x3 x4 x6 s0 : Int} {w : Wd} (h1 : s0 = 0 → Wp (Cw d) cd_M_bars (1, 0, n1) Q 52 [mR 144, mI x1, mI x2, mI x3, mI x4, none, mI x6] [] w) (h2 : ¬ (s0 = 0) → Wp (Cw d) cd_M_bars (1, 0, n1) Q 45 [mR 144, mI x1, mI x2, mI x3, mI x4, none, mI x6] [] w) : Wp (Cw d) cd_M_bars (1, 0, n1) Q 44 [mR 144, mI x1, mI x2, mI x3, mI x4, none, mI x6] [mI s0] w :=
  Wp.s ⟨fun q => h1 q, fun q => h2 q⟩
theorem M_bars_144_b45 {d : Nat} {n1 : Int} {Q : MV → Wd → Prop} {x1 x2 x3 x4 x6 : Int} {w : Wd} (h : Cw d 220 [mR 144, mI x4, mI x6] w (fun r w' => Wp (Cw d) cd_M_bars (1, 0, n1) Q 49 [mR 144, mI x1, mI x2, mI x3, mI x4, none, mI x6] [r] w')) : Wp (Cw d) cd_M_bars (1, 0, n1) Q 45 [mR 144, mI x1, mI x2, mI x3, mI x4, none, mI x6] [] w :=
  Wp.s (Wp.s (Wp.s (Wp.s h)))
theorem M_bars_144_b49 {d : Nat} {n1 : Int} {Q : MV → Wd → Prop} {x1 x2 x3 x4 x6 s0 : Int} {w : Wd} (h1 : s0 = 0 → Wp (Cw d) cd_M_bars (1, 0, n1) Q 52 [mR 144, mI x1, mI x2, mI x3, mI x4, none, mI x6] [] w) (h2 : ¬ (s0 = 0) → Wp (Cw d) cd_M_bars (1, 0, n1) Q 50 [mR 144, mI x1, mI x2, mI x3, mI x4, none, mI x6] [] w) : Wp (Cw d) cd_M_bars (1, 0, n1) Q 49 [mR 144, mI x1, mI x2, mI x3, mI x4, none, mI x6] [mI s0] w :=
  Wp.s ⟨fun q => h1 q, fun q => h2 q⟩
theorem M_bars_144_b50 {d : Nat} {n1 : Int} {Q : MV → Wd → Prop} {x1 x2 x3 x4 x6 : Int} {w : Wd} (h : Wp (Cw d) cd_M_bars (1, 0, n1) Q 53 [mR 144, mI x1, mI x2, mI x3, mI x4, none, mI x6] [mI 1] w) : Wp (Cw d) cd_M_bars (1, 0, n1) Q 50 [mR 144, mI x1, mI x2, mI x3, mI x4, none, mI x6] [] w :=
  Wp.s (Wp.s h)
theorem M_bars_144_b52 {d : Nat} {n1 : Int} {Q : MV → Wd → Prop} {x1 x2 x3 x4 x6 : Int} {w : Wd} (h : Wp (Cw d) cd_M_bars (1, 0, n1) Q 53 [mR 144, mI x1, mI x2, mI x3, mI x4, none, mI x6] [mI 0] w) : Wp (Cw d) cd_M_bars (1, 0, n1) Q 52 [mR 144, mI x1, mI x2, mI x3, mI x4, none, mI x6] [] w :=
  Wp.s h
theorem M_bars_144_b53 {d : Nat} {n1 : Int} {Q : MV → Wd → Prop} {x1 x2 x3 x4 x6 s0 : Int} {w : Wd} (h : Wp (Cw d) cd_M_bars (1, 0, n1) Q 33 [mR 144, mI x1, mI x2, mI x3, mI x4, mI s0, mI (w32 (x6 + 1))] [] w) : Wp (Cw d) cd_M_bars (1, 0, n1) Q 53 [mR 144, mI x1, mI x2, mI x3, mI x4, none, mI x6] [mI s0] w :=
  Wp.s (Wp.s (Wp.s h))
theorem M_bars_144_b56 {d : Nat} {n1 : Int} {Q : MV → Wd → Prop} {x1 x2 x3 x4 x5 : Int} {w : Wd} (h1 : x5 = 0 → Wp (Cw d) cd_M_bars (1, 0, n1) Q 61 [mR 144, mI x1, mI x2, none, mI x4, none, none] [mI x3] w) (h2 : ¬ (x5 = 0) → Wp (Cw d) cd_M_bars (1, 0, n1) Q 59 [mR 144, mI x1, mI x2, none, mI x4, none, none] [mI x3] w) : Wp (Cw d) cd_M_bars (1, 0, n1) Q 56 [mR 144, mI x1, mI x2, mI x3, mI x4, mI x5, none] [] w :=
  Wp.s (Wp.s (Wp.s ⟨fun q => Wp.fgd (leA.k (leA.k (leA.k (leA.f (leA.k (leA.f (leA.f leA.e))))))) (h1 q), fun q => Wp.fgd (leA.k (leA.k (leA.k (leA.f (leA.k (leA.f (leA.f leA.e))))))) (h2 q)⟩))
theorem M_bars_144_b59 {d : Nat} {n1 : Int} {Q : MV → Wd → Prop} {x1 x2 x4 s0 : Int} {w : Wd} (h : Wp (Cw d) cd_M_bars (1, 0, n1) Q 62 [mR 144, mI x1, mI x2, none, mI x4, none, none] [mI 1, mI s0] w) : Wp (Cw d) cd_M_bars (1, 0, n1) Q 59 [mR 144, mI x1, mI x2, none, mI x4, none, none] [mI s0] w :=
  Wp.s (Wp.s h)
theorem M_bars_144_b61 {d : Nat} {n1 : Int} {Q : MV → Wd → Prop} {x1 x2 x4 s0 : Int} {w : Wd} (h : Wp (Cw d) cd_M_bars (1, 0, n1) Q 62 [mR 144, mI x1, mI x2, none, mI x4, none, none] [mI 0, mI s0] w) : Wp (Cw d) cd_M_bars (1, 0, n1) Q 61 [mR 144, mI x1, mI x2, none, mI x4, none, none] [mI s0] w :=
  Wp.s h
theorem M_bars_144_b62 {d : Nat} {n1 : Int} {Q : MV → Wd → Prop} {x1 x2 x4 s0 s1 : Int} {w : Wd} (h : Wp (Cw d) cd_M_bars (1, 0, n1) Q 23 [mR 144, mI x1, mI x2, mI (w32 (s1 + s0)), mI (w32 (x4 + 1)), none, none] [] w) : Wp (Cw d) cd_M_bars (1, 0, n1) Q 62 [mR 144, mI x1, mI x2, none, mI x4, none, none] [mI s0, mI s1] w :=
  Wp.s (Wp.s (Wp.s (Wp.s h)))
theorem M_bars_144_b66 {d : Nat} {n1 : Int} {Q : MV → Wd → Prop} {x1 x2 x3 : Int} {w : Wd} (h : Cw d 225 [mI x2] w (fun r w' => Wp (Cw d) cd_M_bars (1, 0, n1) Q 68 [mR 144, mI x1, mI x2, mI x3, none, none, none] [r] w')) : Wp (Cw d) cd_M_bars (1, 0, n1) Q 66 [mR 144, mI x1, mI x2, mI x3, none, none, none] [] w :=
  Wp.s (Wp.s h)
theorem M_bars_144_b68 {d : Nat} {n1 : Int} {Q : MV → Wd → Prop} {x1 x2 x3 s0 : Int} {w : Wd} (h1 : s0 ≤ x3 → Wp (Cw d) cd_M_bars (1, 0, n1) Q 79 [mR 144, mI x1, mI x2, none, none, none, none] [] w) (h2 : ¬ (s0 ≤ x3) → Wp (Cw d) cd_M_bars (1, 0, n1) Q 70 [mR 144, mI x1, mI x2, none, none, none, none] [] w) : Wp (Cw d) cd_M_bars (1, 0, n1) Q 68 [mR 144, mI x1, mI x2, mI x3, none, none, none] [mI s0] w :=
  Wp.s (Wp.s ⟨fun q => Wp.fgd (leA.k (leA.k (leA.k (leA.f (leA.f (leA.f (leA.f leA.e))))))) (h1 q), fun q => Wp.fgd (leA.k (leA.k (leA.k (leA.f (leA.f (leA.f (leA.f leA.e))))))) (h2 q)⟩)
theorem M_bars_144_b70 {d : Nat} {n1 : Int} {Q : MV → Wd → Prop} {x1 x2 : Int} {w : Wd} (h1 : x1 = 0 → Wp (Cw d) cd_M_bars (1, 0, n1) Q 77 [mR 144, none, mI x2, none, none, none, none] [] w) (h2 : ¬ (x1 = 0) → Wp (Cw d) cd_M_bars (1, 0, n1) Q 72 [mR 144, mI x1, mI x2, none, none, none, none] [] w) : Wp (Cw d) cd_M_bars (1, 0, n1) Q 70 [mR 144, mI x1, mI x2, none, none, none, none] [] w :=
  Wp.s (Wp.s ⟨fun q => Wp.fgd (leA.k (leA.f (leA.k (leA.f (leA.f (leA.f (leA.f leA.e))))))) (h1 q), fun q => h2 q⟩)
theorem M_bars_144_b72 {d : Nat} {n1 : Int} {Q : MV → Wd → Prop} {x1 x2 : Int} {w : Wd} (h : Cw d 225 [mI x2] w (fun r w' => Wp (Cw d) cd_M_bars (1, 0, n1) Q 74 [mR 144, mI x1, mI x2, none, none, none, none] [r] w')) : Wp (Cw d) cd_M_bars (1, 0, n1) Q 72 [mR 144, mI x1, mI x2, none, none, none, none] [] w :=
  Wp.s (Wp.s h)
theorem M_bars_144_b74 {d : Nat} {n1 : Int} {Q : MV → Wd → Prop} {x1 x2 s0 : Int} {w : Wd} (h : Cw d 225 [mI x1] w (fun r w' => Wp (Cw d) cd_M_bars (1, 0, n1) Q 76 [mR 144, mI x1, mI x2, none, none, none, none] [r, mI s0] w')) : Wp (Cw d) cd_M_bars (1, 0, n1) Q 74 [mR 144, mI x1, mI x2, none, none, none, none] [mI s0] w :=
  Wp.s (Wp.s h)
theorem M_bars_144_b76 {d : Nat} {n1 : Int} {Q : MV → Wd → Prop} {x1 x2 s0 s1 : Int} {w : Wd} (h1 : s0 ≤ s1 → Wp (Cw d) cd_M_bars (1, 0, n1) Q 79 [mR 144, mI x1, mI x2, none, none, none, none] [] w) (h2 : ¬ (s0 ≤ s1) → Wp (Cw d) cd_M_bars (1, 0, n1) Q 77 [mR 144, none, mI x2, none, none, none, none] [] w) : Wp (Cw d) cd_M_bars (1, 0, n1) Q 76 [mR 144, mI x1, mI x2, none, none, none, none] [mI s0, mI s1] w :=
  Wp.s ⟨fun q => h1 q, fun q => Wp.fgd (leA.k (leA.f (leA.k (leA.f (leA.f (leA.f (leA.f leA.e))))))) (h2 q)⟩
theorem M_bars_144_b77 {d : Nat} {n1 : Int} {Q : MV → Wd → Prop} {x2 : Int} {w : Wd} (h : Wp (Cw d) cd_M_bars (1, 0, n1) Q 79 [mR 144, mI x2, mI x2, none, none, none, none] [] w) : Wp (Cw d) cd_M_bars (1, 0, n1) Q 77 [mR 144, none, mI x2, none, none, none, none] [] w :=
  Wp.s (Wp.s h)
theorem M_bars_144_b79 {d : Nat} {n1 : Int} {Q : MV → Wd → Prop} {x1 x2 : Int} {w : Wd} (h : Wp (Cw d) cd_M_bars (1, 0, n1) Q 11 [mR 144, mI x1, mI (w32 (x2 + 1)), none, none, none, none] [] w) : Wp (Cw d) cd_M_bars (1, 0, n1) Q 79 [mR 144, mI x1, mI x2, none, none, none, none] [] w :=
  Wp.s (Wp.s h)
theorem M_bars_144_b81 {d : Nat} {n1 : Int} {Q : MV → Wd → Prop} {x1 : Int} {w : Wd} (h : Q (mI x1) w) : Wp (Cw d) cd_M_bars (1, 0, n1) Q 81 [none, mI x1, none, none, none, none, none] [] w :=
  Wp.s (Wp.s h)
theorem X_best_0_b0 {d : Nat} {n1 : Int} {Q : MV → Wd → Prop} {x1 : Int} {w : Wd} (h : Cw d 55 [mR 0] w (fun r w' => Wp (Cw d) cd_X_best (1, 0, n1) Q 2 [none, mI x1, none] [r] w')) : Wp (Cw d) cd_X_best (1, 0, n1) Q 0 [mR 0, mI x1, none] [] w :=
  Wp.s (Wp.s (Cw_mono _ _ _ _ _ _ (fun r w' q => Wp.fgd (leA.f (leA.k (leA.f leA.e))) q) h))
theorem X_best_0_b2 {d : Nat} {n1 : Int} {Q : MV → Wd → Prop} {x1 : Int} {w : Wd} (h0 : x1 = 0 → Wp (Cw d) cd_X_best (1, 0, n1) Q 5 [none, none, mR 92] [] w) (h1 : x1 = 1 → Wp (Cw d) cd_X_best (1, 0, n1) Q 8 [none, none, mR 92] [] w) (h2 : x1 = 2 → Wp (Cw d) cd_X_best (1, 0, n1) Q 11 [none, none, mR 92] [] w) (hd : ¬ x1 = 0 → ¬ x1 = 1 → ¬ x1 = 2 → Wp (Cw d) cd_X_best (1, 0, n1) Q 14 [none, none, none] [] w) : Wp (Cw d) cd_X_best (1, 0, n1) Q 2 [none, mI x1, none] [mR 92] w :=
  Wp.s (Wp.s (Wp.s ⟨fun q => Wp.fgd (leA.f (leA.f (leA.k leA.e))) (h0 q), fun q0 => ⟨fun q => Wp.fgd (leA.f (leA.f (leA.k leA.e))) (h1 q), fun q1 => ⟨fun q => Wp.fgd (leA.f (leA.f (leA.k leA.e))) (h2 q), fun q2 => Wp.fgd (leA.f (leA.f (leA.f leA.e))) (hd q0 q1 q2)⟩⟩⟩))
theorem X_best_0_b5 {d : Nat} {n1 : Int} {Q : MV → Wd → Prop} {w : Wd} (h : Cw d 92 [mR 92] w (fun r w' => Wp (Cw d) cd_X_best (1, 0, n1) Q 7 [none, none, none] [r] w')) : Wp (Cw d) cd_X_best (1, 0, n1) Q 5 [none, none, mR 92] [] w :=
  Wp.s (Wp.s (Cw_mono _ _ _ _ _ _ (fun r w' q => Wp.fgd (leA.f (leA.f (leA.f leA.e))) q) h))
theorem X_best_0_b7 {d : Nat} {n1 : Int} {Q : MV → Wd → Prop} {s0 : Int} {w : Wd} (h : Q (mI s0) w) : Wp (Cw d) cd_X_best (1, 0, n1) Q 7 [none, none, none] [mI s0] w :=
  Wp.s h
theorem X_best_0_b8 {d : Nat} {n1 : Int} {Q : MV → Wd → Prop} {w : Wd} (h : Cw d 93 [mR 92] w (fun r w' => Wp (Cw d) cd_X_best (1, 0, n1) Q 10 [none, none, none] [r] w')) : Wp (Cw d) cd_X_best (1, 0, n1) Q 8 [none, none, mR 92] [] w :=
  Wp.s (Wp.s (Cw_mono _ _ _ _ _ _ (fun r w' q => Wp.fgd (leA.f (leA.f (leA.f leA.e))) q) h))
theorem X_best_0_b10 {d : Nat} {n1 : Int} {Q : MV → Wd → Prop} {s0 : Int} {w : Wd} (h : Q (mI s0) w) : Wp (Cw d) cd_X_best (1, 0, n1) Q 10 [none, none, none] [mI s0] w :=
  Wp.s h
theorem X_best_0_b11 {d : Nat} {n1 : Int} {Q : MV → Wd → Prop} {w : Wd} (h : Cw d 94 [mR 92] w (fun r w' => Wp (Cw d) cd_X_best (1, 0, n1) Q 13 [none, none, none] [r] w')) : Wp (Cw d) cd_X_best (1, 0, n1) Q 11 [none, none, mR 92] [] w :=
  Wp.s (Wp.s (Cw_mono _ _ _ _ _ _ (fun r w' q => Wp.fgd (leA.f (leA.f (leA.f leA.e))) q) h))
theorem X_best_0_b13 {d : Nat} {n1 : Int} {Q : MV → Wd → Prop} {s0 : Int} {w : Wd} (h : Q (mI s0) w) : Wp (Cw d) cd_X_best (1, 0, n1) Q 13 [none, none, none] [mI s0] w :=
  Wp.s h
theorem X_best_0_b14 {d : Nat} {n1 : Int} {Q : MV → Wd → Prop} {w : Wd} (h : Q (mI ((-1))) w) : Wp (Cw d) cd_X_best (1, 0, n1) Q 14 [none, none, none] [] w :=
  Wp.s (Wp.s h)
theorem M_best_144_b0 {d : Nat} {n1 : Int} {Q : MV → Wd → Prop} {x1 : Int} {w : Wd} (h : Cw d 208 [mR 144] (ub w 144 0 0) (fun _ w' => Wp (Cw d) cd_M_best (1, 0, n1) Q 5 [mR 144, mI x1] [] w')) : Wp (Cw d) cd_M_best (1, 0, n1) Q 0 [mR 144, mI x1] [] w :=
  Wp.s (Wp.s (Wp.s (Wp.s (Wp.s h))))
theorem M_best_144_b5 {d : Nat} {n1 : Int} {Q : MV → Wd → Prop} {x1 : Int} {w : Wd} (h : Cw d 209 [mR 144] w (fun _ w' => Wp (Cw d) cd_M_best (1, 0, n1) Q 7 [mR 144, mI x1] [] w')) : Wp (Cw d) cd_M_best (1, 0, n1) Q 5 [mR 144, mI x1] [] w :=
  Wp.s (Wp.s h)
theorem M_best_144_b7 {d : Nat} {n1 : Int} {Q : MV → Wd → Prop} {x1 : Int} {w : Wd} (h : Cw d 228 [mR 144] w (fun _ w' => Wp (Cw d) cd_M_best (1, 0, n1) Q 9 [mR 144, mI x1] [] w')) : Wp (Cw d) cd_M_best (1, 0, n1) Q 7 [mR 144, mI x1] [] w :=
  Wp.s (Wp.s h)
theorem M_best_144_b9 {d : Nat} {n1 : Int} {Q : MV → Wd → Prop} {x1 : Int} {w : Wd} (h1 : ¬ x1 = 0 → Wp (Cw d) cd_M_best (1, 0, n1) Q 14 [mR 144, mI x1] [] w) (h2 : ¬ (¬ x1 = 0) → Wp (Cw d) cd_M_best (1, 0, n1) Q 11 [mR 144, none] [] w) : Wp (Cw d) cd_M_best (1, 0, n1) Q 9 [mR 144, mI x1] [] w :=
  Wp.s (Wp.s ⟨fun q => h1 q, fun q => Wp.fgd (leA.k (leA.f leA.e)) (h2 q)⟩)
theorem M_best_144_b11 {d : Nat} {n1 : Int} {Q : MV → Wd → Prop} {w : Wd} (h : Wp (Cw d) cd_M_best (1, 0, n1) Q 27 [none, none] [mI (w 144 47)] w) : Wp (Cw d) cd_M_best (1, 0, n1) Q 11 [mR 144, none] [] w :=
  Wp.s (Wp.s (Wp.s (Wp.fgd (leA.f (leA.f leA.e)) h)))
theorem M_best_144_b14 {d : Nat} {n1 : Int} {Q : MV → Wd → Prop} {x1 : Int} {w : Wd} (h1 : ¬ x1 = 1 → Wp (Cw d) cd_M_best (1, 0, n1) Q 20 [mR 144, mI x1] [] w) (h2 : ¬ (¬ x1 = 1) → Wp (Cw d) cd_M_best (1, 0, n1) Q 17 [mR 144, none] [] w) : Wp (Cw d) cd_M_best (1, 0, n1) Q 14 [mR 144, mI x1] [] w :=
  Wp.s (Wp.s (Wp.s ⟨fun q => h1 q, fun q => Wp.fgd (leA.k (leA.f leA.e)) (h2 q)⟩))
theorem M_best_144_b17 {d : Nat} {n1 : Int} {Q : MV → Wd → Prop} {w : Wd} (h : Wp (Cw d) cd_M_best (1, 0, n1) Q 27 [none, none] [mI (w 144 48)] w) : Wp (Cw d) cd_M_best (1, 0, n1) Q 17 [mR 144, none] [] w :=
  Wp.s (Wp.s (Wp.s (Wp.fgd (leA.f (leA.f leA.e)) h)))
theorem M_best_144_b20 {d : Nat} {n1 : Int} {Q : MV → Wd → Prop} {x1 : Int} {w : Wd} (h1 : ¬ x1 = 2 → Wp (Cw d) cd_M_best (1, 0, n1) Q 26 [none, none] [] w) (h2 : ¬ (¬ x1 = 2) → Wp (Cw d) cd_M_best (1, 0, n1) Q 23 [mR 144, none] [] w) : Wp (Cw d) cd_M_best (1, 0, n1) Q 20 [mR 144, mI x1] [] w :=
  Wp.s (Wp.s (Wp.s ⟨fun q => Wp.fgd (leA.f (leA.f leA.e)) (h1 q), fun q => Wp.fgd (leA.k (leA.f leA.e)) (h2 q)⟩))
theorem M_best_144_b23 {d : Nat} {n1 : Int} {Q : MV → Wd → Prop} {w : Wd} (h : Wp (Cw d) cd_M_best (1, 0, n1) Q 27 [none, none] [mI (w 144 49)] w) : Wp (Cw d) cd_M_best (1, 0, n1) Q 23 [mR 144, none] [] w :=
  Wp.s (Wp.s (Wp.s (Wp.fgd (leA.f (leA.f leA.e)) h)))
theorem M_best_144_b26 {d : Nat} {n1 : Int} {Q : MV → Wd → Prop} {w : Wd} (h : Wp (Cw d) cd_M_best (1, 0, n1) Q 27 [none, none] [mI ((-1))] w) : Wp (Cw d) cd_M_best (1, 0, n1) Q 26 [none, none] [] w :=
  Wp.s h
theorem M_best_144_b27 {d : Nat} {n1 : Int} {Q : MV → Wd → Prop} {s0 : Int} {w : Wd} (h : Q (mI s0) w) : Wp (Cw d) cd_M_best (1, 0, n1) Q 27 [none, none] [mI s0] w :=
  Wp.s h
theorem X_bestOf_0_b0 {d : Nat} {n1 : Int} {Q : MV → Wd → Prop} {x1 : Int} {w : Wd} (h : Cw d 54 [mR 4, mI x1] w (fun r w' => Wp (Cw d) cd_X_bestOf (1, 0, n1) Q 4 [mR 0, mI x1] [r] w')) : Wp (Cw d) cd_X_bestOf (1, 0, n1) Q 0 [mR 0, mI x1] [] w :=
  Wp.s (Wp.s (Wp.s (Wp.s h)))
theorem X_bestOf_0_b4 {d : Nat} {n1 : Int} {Q : MV → Wd → Prop} {x1 s0 : Int} {w : Wd} (h1 : s0 = 0 → Wp (Cw d) cd_X_bestOf (1, 0, n1) Q 10 [none, none] [] w) (h2 : ¬ (s0 = 0) → Wp (Cw d) cd_X_bestOf (1, 0, n1) Q 5 [mR 0, mI x1] [] w) : Wp (Cw d) cd_X_bestOf (1, 0, n1) Q 4 [mR 0, mI x1] [mI s0] w :=
  Wp.s ⟨fun q => Wp.fgd (leA.f (leA.f leA.e)) (h1 q), fun q => h2 q⟩
theorem X_bestOf_0_b5 {d : Nat} {n1 : Int} {Q : MV → Wd → Prop} {x1 : Int} {w : Wd} (h : Cw d 55 [mR 0] w (fun r w' => Wp (Cw d) cd_X_bestOf (1, 0, n1) Q 7 [none, mI x1] [r] w')) : Wp (Cw d) cd_X_bestOf (1, 0, n1) Q 5 [mR 0, mI x1] [] w :=
  Wp.s (Wp.s (Cw_mono _ _ _ _ _ _ (fun r w' q => Wp.fgd (leA.f (leA.k leA.e)) q) h))
theorem X_bestOf_0_b7 {d : Nat} {n1 : Int} {Q : MV → Wd → Prop} {x1 : Int} {w : Wd} (h : Cw d 95 [mR 92, mI x1] w (fun r w' => Wp (Cw d) cd_X_bestOf (1, 0, n1) Q 9 [none, none] [r] w')) : Wp (Cw d) cd_X_bestOf (1, 0, n1) Q 7 [none, mI x1] [mR 92] w :=
  Wp.s (Wp.s (Cw_mono _ _ _ _ _ _ (fun r w' q => Wp.fgd (leA.f (leA.f leA.e)) q) h))
theorem X_bestOf_0_b9 {d : Nat} {n1 : Int} {Q : MV → Wd → Prop} {s0 : Int} {w : Wd} (h : Wp (Cw d) cd_X_bestOf (1, 0, n1) Q 11 [none, none] [mI s0] w) : Wp (Cw d) cd_X_bestOf (1, 0, n1) Q 9 [none, none] [mI s0] w :=
  Wp.s h
theorem X_bestOf_0_b10 {d : Nat} {n1 : Int} {Q : MV → Wd → Prop} {w : Wd} (h : Wp (Cw d) cd_X_bestOf (1, 0, n1) Q 11 [none, none] [mI ((-1))] w) : Wp (Cw d) cd_X_bestOf (1, 0, n1) Q 10 [none, none] [] w :=
  Wp.s h
theorem X_bestOf_0_b11 {d : Nat} {n1 : Int} {Q : MV → Wd → Prop} {s0 : Int} {w : Wd} (h : Q (mI s0) w) : Wp (Cw d) cd_X_bestOf (1, 0, n1) Q 11 [none, none] [mI s0] w :=
  Wp.s h
theorem M_bestOf_144_b0 {d : Nat} {n1 : Int} {Q : MV → Wd → Prop} {x1 : Int} {w : Wd} (h : Cw d 204 [mR 144, mI x1] (ub w 144 0 0) (fun r w' => Wp (Cw d) cd_M_bestOf (1, 0, n1) Q 6 [mR 144, mI x1] [r] w')) : Wp (Cw d) cd_M_bestOf (1, 0, n1) Q 0 [mR 144, mI x1] [] w :=
  Wp.s (Wp.s (Wp.s (Wp.s (Wp.s (Wp.s h)))))
theorem M_bestOf_144_b6 {d : Nat} {n1 : Int} {Q : MV → Wd → Prop} {x1 s0 : Int} {w : Wd} (h1 : ¬ s0 = 0 → Wp (Cw d) cd_M_bestOf (1, 0, n1) Q 9 [mR 144, mI x1] [] w) (h2 : ¬ (¬ s0 = 0) → Wp (Cw d) cd_M_bestOf (1, 0, n1) Q 7 [none, none] [] w) : Wp (Cw d) cd_M_bestOf (1, 0, n1) Q 6 [mR 144, mI x1] [mI s0] w :=
  Wp.s ⟨fun q => h1 q, fun q => Wp.fgd (leA.f (leA.f leA.e)) (h2 q)⟩
theorem M_bestOf_144_b7 {d : Nat} {n1 : Int} {Q : MV → Wd → Prop} {w : Wd} (h : Q (mI ((-1))) w) : Wp (Cw d) cd_M_bestOf (1, 0, n1) Q 7 [none, none] [] w :=
  Wp.s (Wp.s h)
theorem M_bestOf_144_b9 {d : Nat} {n1 : Int} {Q : MV → Wd → Prop} {x1 : Int} {w : Wd} (h : Cw d 208 [mR 144] w (fun _ w' => Wp (Cw d) cd_M_bestOf (1, 0, n1) Q 11 [mR 144, mI x1] [] w')) : Wp (Cw d) cd_M_bestOf (1, 0, n1) Q 9 [mR 144, mI x1] [] w :=
  Wp.s (Wp.s h)
theorem M_bestOf_144_b11 {d : Nat} {n1 : Int} {Q : MV → Wd → Prop} {x1 : Int} {w : Wd} (h : Cw d 209 [mR 144] w (fun _ w' => Wp (Cw d) cd_M_bestOf (1, 0, n1) Q 13 [mR 144, mI x1] [] w')) : Wp (Cw d) cd_M_bestOf (1, 0, n1) Q 11 [mR 144, mI x1] [] w :=
  Wp.s (Wp.s h)
theorem M_bestOf_144_b13 {d : Nat} {n1 : Int} {Q : MV → Wd → Prop} {x1 : Int} {w : Wd} (h : Cw d 228 [mR 144] w (fun _ w' => Wp (Cw d) cd_M_bestOf (1, 0, n1) Q 15 [mR 144, mI x1] [] w')) : Wp (Cw d) cd_M_bestOf (1, 0, n1) Q 13 [mR 144, mI x1] [] w :=
  Wp.s (Wp.s h)
theorem M_bestOf_144_b15 {d : Nat} {n1 : Int} {Q : MV → Wd → Prop} {x1 : Int} {w : Wd} (g1 : (0 : Int) ≤ x1 ∧ x1 < 8) (h : Q (mI (w 167 x1.toNat)) w) : Wp (Cw d) cd_M_bestOf (1, 0, n1) Q 15 [mR 144, mI x1] [] w :=
  Wp.s (Wp.s (Wp.s (Wp.s ⟨g1, Wp.s h⟩)))
theorem X_plan_0_b0 {d : Nat} {n1 : Int} {Q : MV → Wd → Prop} {w : Wd} (h : Cw d 16 [mR 0] w (fun r w' => Wp (Cw d) cd_X_plan (1, 0, n1) Q 4 [mR 0, none] [r, mR 2] w')) : Wp (Cw d) cd_X_plan (1, 0, n1) Q 0 [mR 0, none] [] w :=
  Wp.s (Wp.s (Wp.s (Wp.s h)))
theorem X_plan_0_b4 {d : Nat} {n1 : Int} {Q : MV → Wd → Prop} {s0 : Int} {w : Wd} (h : Cw d 17 [mR 2, mI s0, mI 500] w (fun _ w' => Wp (Cw d) cd_X_plan (1, 0, n1) Q 6 [mR 0, none] [] w')) : Wp (Cw d) cd_X_plan (1, 0, n1) Q 4 [mR 0, none] [mI s0, mR 2] w :=
  Wp.s (Wp.s h)
theorem X_plan_0_b6 {d : Nat} {n1 : Int} {Q : MV → Wd → Prop} {w : Wd} (h : Cw d 98 [mR 32, mR 2, mR 4] w (fun r w' => Wp (Cw d) cd_X_plan (1, 0, n1) Q 13 [mR 0, none] [r] w')) : Wp (Cw d) cd_X_plan (1, 0, n1) Q 6 [mR 0, none] [] w :=
  Wp.s (Wp.s (Wp.s (Wp.s (Wp.s (Wp.s (Wp.s h))))))
theorem X_plan_0_b13 {d : Nat} {n1 : Int} {Q : MV → Wd → Prop} {s0 : Int} {w : Wd} (h1 : s0 < 0 → Wp (Cw d) cd_X_plan (1, 0, n1) Q 26 [none, mI s0] [] (ub w 0 2 (w 2 8))) (h2 : ¬ (s0 < 0) → Wp (Cw d) cd_X_plan (1, 0, n1) Q 21 [mR 0, mI s0] [] (ub w 0 2 (w 2 8))) : Wp (Cw d) cd_X_plan (1, 0, n1) Q 13 [mR 0, none] [mI s0] w :=
  Wp.s (Wp.s (Wp.s (Wp.s (Wp.s (Wp.s (Wp.s (Wp.s ⟨fun q => Wp.fgd (leA.f (leA.k leA.e)) (h1 q), fun q => h2 q⟩)))))))
theorem X_plan_0_b21 {d : Nat} {n1 : Int} {Q : MV → Wd → Prop} {x1 : Int} {w : Wd} (h : Cw d 101 [mR 28, mR 32] w (fun _ w' => Wp (Cw d) cd_X_plan (1, 0, n1) Q 26 [none, mI x1] [] w')) : Wp (Cw d) cd_X_plan (1, 0, n1) Q 21 [mR 0, mI x1] [] w :=
  Wp.s (Wp.s (Wp.s (Wp.s (Wp.s (Cw_mono _ _ _ _ _ _ (fun r w' q => Wp.fgd (leA.f (leA.k leA.e)) q) h)))))
theorem X_plan_0_b26 {d : Nat} {n1 : Int} {Q : MV → Wd → Prop} {x1 : Int} {w : Wd} (h : Q (mI x1) w) : Wp (Cw d) cd_X_plan (1, 0, n1) Q 26 [none, mI x1] [] w :=
  Wp.s (Wp.s h)
theorem M_plan_144_b0 {d : Nat} {n1 : Int} {Q : MV → Wd → Prop} {w : Wd} (h : Cw d 174 [mR 144, mI 500] (ub w 144 0 0) (fun _ w' => Wp (Cw d) cd_M_plan (1, 0, n1) Q 6 [mR 144] [] w')) : Wp (Cw d) cd_M_plan (1, 0, n1) Q 0 [mR 144] [] w :=
  Wp.s (Wp.s (Wp.s (Wp.s (Wp.s (Wp.s h)))))
theorem M_plan_144_b6 {d : Nat} {n1 : Int} {Q : MV → Wd → Prop} {w : Wd} (h : Cw d 175 [mR 144] (ub (ub w 144 15 0) 144 50 0) (fun _ w' => Wp (Cw d) cd_M_plan (1, 0, n1) Q 14 [mR 144] [] w')) : Wp (Cw d) cd_M_plan (1, 0, n1) Q 6 [mR 144] [] w :=
  Wp.s (Wp.s (Wp.s (Wp.s (Wp.s (Wp.s (Wp.s (Wp.s h)))))))
theorem M_plan_144_b14 {d : Nat} {n1 : Int} {Q : MV → Wd → Prop} {w : Wd} (h1 : w 144 11 = 0 → Wp (Cw d) cd_M_plan (1, 0, n1) Q 36 [mR 144] [] w) (h2 : ¬ (w 144 11 = 0) → Wp (Cw d) cd_M_plan (1, 0, n1) Q 17 [mR 144] [] w) : Wp (Cw d) cd_M_plan (1, 0, n1) Q 14 [mR 144] [] w :=
  Wp.s (Wp.s (Wp.s ⟨fun q => h1 q, fun q => h2 q⟩))
theorem M_plan_144_b17 {d : Nat} {n1 : Int} {Q : MV → Wd → Prop} {w : Wd} (h : Cw d 232 [mR 144] w (fun r w' => Wp (Cw d) cd_M_plan (1, 0, n1) Q 19 [mR 144] [r] w')) : Wp (Cw d) cd_M_plan (1, 0, n1) Q 17 [mR 144] [] w :=
  Wp.s (Wp.s h)
theorem M_plan_144_b19 {d : Nat} {n1 : Int} {Q : MV → Wd → Prop} {s0 : Int} {w : Wd} (h1 : s0 = 0 → Wp (Cw d) cd_M_plan (1, 0, n1) Q 24 [mR 144] [] w) (h2 : ¬ (s0 = 0) → Wp (Cw d) cd_M_plan (1, 0, n1) Q 20 [mR 144] [] w) : Wp (Cw d) cd_M_plan (1, 0, n1) Q 19 [mR 144] [mI s0] w :=
  Wp.s ⟨fun q => h1 q, fun q => h2 q⟩
theorem M_plan_144_b20 {d : Nat} {n1 : Int} {Q : MV → Wd → Prop} {w : Wd} (h : Cw d 195 [mR 144, mI 59] w (fun r w' => Wp (Cw d) cd_M_plan (1, 0, n1) Q 23 [mR 144] [r] w')) : Wp (Cw d) cd_M_plan (1, 0, n1) Q 20 [mR 144] [] w :=
  Wp.s (Wp.s (Wp.s h))
theorem M_plan_144_b23 {d : Nat} {n1 : Int} {Q : MV → Wd → Prop} {s0 : Int} {w : Wd} (h1 : ¬ s0 = 0 → Wp (Cw d) cd_M_plan (1, 0, n1) Q 29 [mR 144] [] w) (h2 : ¬ (¬ s0 = 0) → Wp (Cw d) cd_M_plan (1, 0, n1) Q 24 [mR 144] [] w) : Wp (Cw d) cd_M_plan (1, 0, n1) Q 23 [mR 144] [mI s0] w :=
  Wp.s ⟨fun q => h1 q, fun q => h2 q⟩
theorem M_plan_144_b24 {d : Nat} {n1 : Int} {Q : MV → Wd → Prop} {w : Wd} (h : Q (mI (w32 (((-1)) - (w 144 16)))) w) : Wp (Cw d) cd_M_plan (1, 0, n1) Q 24 [mR 144] [] w :=
  Wp.s (Wp.s (Wp.s (Wp.s (Wp.s h))))
theorem M_plan_144_b29 {d : Nat} {n1 : Int} {Q : MV → Wd → Prop} {w : Wd} (h : Wp (Cw d) cd_M_plan (1, 0, n1) Q 14 [mR 144] [] (ub w 144 50 (w32 ((w 144 50) + 1)))) : Wp (Cw d) cd_M_plan (1, 0, n1) Q 29 [mR 144] [] w :=
  Wp.s (Wp.s (Wp.s (Wp.s (Wp.s (Wp.s (Wp.s h))))))
theorem M_plan_144_b36 {d : Nat} {n1 : Int} {Q : MV → Wd → Prop} {w : Wd} (h : Cw d 233 [mR 144] w (fun _ w' => Wp (Cw d) cd_M_plan (1, 0, n1) Q 38 [mR 144] [] w')) : Wp (Cw d) cd_M_plan (1, 0, n1) Q 36 [mR 144] [] w :=
  Wp.s (Wp.s h)
theorem M_plan_144_b38 {d : Nat} {n1 : Int} {Q : MV → Wd → Prop} {w : Wd} (h : Q (mI (w 144 50)) w) : Wp (Cw d) cd_M_plan (1, 0, n1) Q 38 [mR 144] [] w :=
  Wp.s (Wp.s (Wp.s h))
theorem X_drawn_0_b0 {d : Nat} {n1 : Int} {Q : MV → Wd → Prop} {x1 x2 : Int} {w : Wd} (h1 : x1 < 1 → Wp (Cw d) cd_X_drawn (1, 0, n1) Q 10 [none, none, none] [] w) (h2 : ¬ (x1 < 1) → Wp (Cw d) cd_X_drawn (1, 0, n1) Q 3 [mR 0, mI x1, mI x2] [] w) : Wp (Cw d) cd_X_drawn (1, 0, n1) Q 0 [mR 0, mI x1, mI x2] [] w :=
  Wp.s (Wp.s (Wp.s ⟨fun q => Wp.fgd (leA.f (leA.f (leA.f leA.e))) (h1 q), fun q => h2 q⟩))
theorem X_drawn_0_b3 {d : Nat} {n1 : Int} {Q : MV → Wd → Prop} {x1 x2 : Int} {w : Wd} (h1 : 50 < x1 → Wp (Cw d) cd_X_drawn (1, 0, n1) Q 10 [none, none, none] [] w) (h2 : ¬ (50 < x1) → Wp (Cw d) cd_X_drawn (1, 0, n1) Q 6 [mR 0, mI x1, mI x2] [] w) : Wp (Cw d) cd_X_drawn (1, 0, n1) Q 3 [mR 0, mI x1, mI x2] [] w :=
  Wp.s (Wp.s (Wp.s ⟨fun q => Wp.fgd (leA.f (leA.f (leA.f leA.e))) (h1 q), fun q => h2 q⟩))
theorem X_drawn_0_b6 {d : Nat} {n1 : Int} {Q : MV → Wd → Prop} {x1 x2 : Int} {w : Wd} (h1 : ¬ w 4 8 = 0 → Wp (Cw d) cd_X_drawn (1, 0, n1) Q 12 [mR 0, mI x1, mI x2] [] w) (h2 : ¬ (¬ w 4 8 = 0) → Wp (Cw d) cd_X_drawn (1, 0, n1) Q 10 [none, none, none] [] w) : Wp (Cw d) cd_X_drawn (1, 0, n1) Q 6 [mR 0, mI x1, mI x2] [] w :=
  Wp.s (Wp.s (Wp.s (Wp.s ⟨fun q => h1 q, fun q => Wp.fgd (leA.f (leA.f (leA.f leA.e))) (h2 q)⟩)))
theorem X_drawn_0_b10 {d : Nat} {n1 : Int} {Q : MV → Wd → Prop} {w : Wd} (h : Q (mI ((-1))) w) : Wp (Cw d) cd_X_drawn (1, 0, n1) Q 10 [none, none, none] [] w :=
  Wp.s (Wp.s h)
theorem X_drawn_0_b12 {d : Nat} {n1 : Int} {Q : MV → Wd → Prop} {x1 x2 : Int} {w : Wd} (h : Cw d 103 [mR 28, mI x1, mI x2, mR 4] w (fun _ w' => Wp (Cw d) cd_X_drawn (1, 0, n1) Q 19 [none, mI x1, none] [] w')) : Wp (Cw d) cd_X_drawn (1, 0, n1) Q 12 [mR 0, mI x1, mI x2] [] w :=
  Wp.s (Wp.s (Wp.s (Wp.s (Wp.s (Wp.s (Wp.s (Cw_mono _ _ _ _ _ _ (fun r w' q => Wp.fgd (leA.f (leA.k (leA.f leA.e))) q) h)))))))
theorem X_drawn_0_b19 {d : Nat} {n1 : Int} {Q : MV → Wd → Prop} {x1 : Int} {w : Wd} (h : Q (mI x1) w) : Wp (Cw d) cd_X_drawn (1, 0, n1) Q 19 [none, mI x1, none] [] w :=
  Wp.s (Wp.s h)
theorem M_drawn_144_b0 {d : Nat} {n1 : Int} {Q : MV → Wd → Prop} {x1 x2 : Int} {w : Wd} (h : Cw d 187 [mI x1, mI 1, mI 50] (ub w 144 0 0) (fun r w' => Wp (Cw d) cd_M_drawn (1, 0, n1) Q 7 [mR 144, mI x1, mI x2, none, none, none] [r] w')) : Wp (Cw d) cd_M_drawn (1, 0, n1) Q 0 [mR 144, mI x1, mI x2, none, none, none] [] w :=
  Wp.s (Wp.s (Wp.s (Wp.s (Wp.s (Wp.s (Wp.s h))))))
theorem M_drawn_144_b7 {d : Nat} {n1 : Int} {Q : MV → Wd → Prop} {x1 x2 s0 : Int} {w : Wd} (h1 : s0 = 0 → Wp (Cw d) cd_M_drawn (1, 0, n1) Q 13 [none, none, none, none, none, none] [] w) (h2 : ¬ (s0 = 0) → Wp (Cw d) cd_M_drawn (1, 0, n1) Q 8 [mR 144, mI x1, mI x2, none, none, none] [] w) : Wp (Cw d) cd_M_drawn (1, 0, n1) Q 7 [mR 144, mI x1, mI x2, none, none, none] [mI s0] w :=
  Wp.s ⟨fun q => Wp.fgd (leA.f (leA.f (leA.f (leA.f (leA.f (leA.f leA.e)))))) (h1 q), fun q => h2 q⟩
theorem M_drawn_144_b8 {d : Nat} {n1 : Int} {Q : MV → Wd → Prop} {x1 x2 : Int} {w : Wd} (h1 : ¬ w 146 2.toNat = 0 → Wp (Cw d) cd_M_drawn (1, 0, n1) Q 15 [mR 144, mI x1, mI x2, none, none, none] [] w) (h2 : ¬ (¬ w 146 2.toNat = 0) → Wp (Cw d) cd_M_drawn (1, 0, n1) Q 13 [none, none, none, none, none, none] [] w) : Wp (Cw d) cd_M_drawn (1, 0, n1) Q 8 [mR 144, mI x1, mI x2, none, none, none] [] w :=
  Wp.s (Wp.s (Wp.s (Wp.s ⟨(by decide), Wp.s ⟨fun q => h1 q, fun q => Wp.fgd (leA.f (leA.f (leA.f (leA.f (leA.f (leA.f leA.e)))))) (h2 q)⟩⟩)))
theorem M_drawn_144_b13 {d : Nat} {n1 : Int} {Q : MV → Wd → Prop} {w : Wd} (h : Q (mI ((-1))) w) : Wp (Cw d) cd_M_drawn (1, 0, n1) Q 13 [none, none, none, none, none, none] [] w :=
  Wp.s (Wp.s h)
theorem M_drawn_144_b15 {d : Nat} {n1 : Int} {Q : MV → Wd → Prop} {x1 x2 : Int} {w : Wd} (h : Wp (Cw d) cd_M_drawn (1, 0, n1) Q 21 [mR 144, mI x1, none, none, none, none] [] (ub (ub w 144 51 x2) 144 50 0)) : Wp (Cw d) cd_M_drawn (1, 0, n1) Q 15 [mR 144, mI x1, mI x2, none, none, none] [] w :=
  Wp.s (Wp.s (Wp.s (Wp.s (Wp.s (Wp.s (Wp.fgd (leA.k (leA.k (leA.f (leA.f (leA.f (leA.f leA.e)))))) h))))))
theorem M_drawn_144_b21 {d : Nat} {n1 : Int} {Q : MV → Wd → Prop} {x1 : Int} {w : Wd} (h1 : x1 ≤ w 144 50 → Wp (Cw d) cd_M_drawn (1, 0, n1) Q 97 [mR 144, mI x1, none, none, none, none] [] w) (h2 : ¬ (x1 ≤ w 144 50) → Wp (Cw d) cd_M_drawn (1, 0, n1) Q 25 [mR 144, mI x1, none, none, none, none] [] w) : Wp (Cw d) cd_M_drawn (1, 0, n1) Q 21 [mR 144, mI x1, none, none, none, none] [] w :=
  Wp.s (Wp.s (Wp.s (Wp.s ⟨fun q => h1 q, fun q => h2 q⟩)))
theorem M_drawn_144_b25 {d : Nat} {n1 : Int} {Q : MV → Wd → Prop} {x1 : Int} {w : Wd} (h : Cw d 235 [mR 144, mI 4] w (fun r w' => Wp (Cw d) cd_M_drawn (1, 0, n1) Q 28 [mR 144, mI x1, none, none, none, none] [r] w')) : Wp (Cw d) cd_M_drawn (1, 0, n1) Q 25 [mR 144, mI x1, none, none, none, none] [] w :=
  Wp.s (Wp.s (Wp.s h))
theorem M_drawn_144_b28 {d : Nat} {n1 : Int} {Q : MV → Wd → Prop} {x1 s0 : Int} {w : Wd} (h : Cw d 235 [mR 144, mI (w 146 2.toNat)] w (fun r w' => Wp (Cw d) cd_M_drawn (1, 0, n1) Q 35 [mR 144, mI x1, none, mI s0, none, none] [r] w')) : Wp (Cw d) cd_M_drawn (1, 0, n1) Q 28 [mR 144, mI x1, none, none, none, none] [mI s0] w :=
  Wp.s (Wp.s (Wp.s (Wp.s (Wp.s (Wp.s ⟨(by decide), Wp.s h⟩)))))
theorem M_drawn_144_b35 {d : Nat} {n1 : Int} {Q : MV → Wd → Prop} {x1 x3 s0 : Int} {w : Wd} (h : Cw d 235 [mR 144, mI (w 146 0.toNat)] w (fun r w' => Wp (Cw d) cd_M_drawn (1, 0, n1) Q 42 [mR 144, mI x1, none, mI x3, mI s0, none] [r] w')) : Wp (Cw d) cd_M_drawn (1, 0, n1) Q 35 [mR 144, mI x1, none, mI x3, none, none] [mI s0] w :=
  Wp.s (Wp.s (Wp.s (Wp.s (Wp.s (Wp.s ⟨(by decide), Wp.s h⟩)))))
theorem M_drawn_144_b42 {d : Nat} {n1 : Int} {Q : MV → Wd → Prop} {x1 x3 x4 s0 : Int} {w : Wd} (h1 : ¬ x3 = 0 → Wp (Cw d) cd_M_drawn (1, 0, n1) Q 53 [mR 144, mI x1, none, mI x3, mI x4, mI s0] [mI (w32 (3 * (w 144 50))), mR 148] w) (h2 : ¬ (¬ x3 = 0) → Wp (Cw d) cd_M_drawn (1, 0, n1) Q 51 [mR 144, mI x1, none, mI x3, mI x4, mI s0] [mI (w32 (3 * (w 144 50))), mR 148] w) : Wp (Cw d) cd_M_drawn (1, 0, n1) Q 42 [mR 144, mI x1, none, mI x3, mI x4, none] [mI s0] w :=
  Wp.s (Wp.s (Wp.s (Wp.s (Wp.s (Wp.s (Wp.s (Wp.s (Wp.s ⟨fun q => h1 q, fun q => h2 q⟩))))))))
theorem M_drawn_144_b51 {d : Nat} {n1 : Int} {Q : MV → Wd → Prop} {x1 x3 x4 x5 s0 : Int} {w : Wd} (h : Wp (Cw d) cd_M_drawn (1, 0, n1) Q 59 [mR 144, mI x1, none, mI x3, mI x4, mI x5] [mI 1, mI s0, mR 148] w) : Wp (Cw d) cd_M_drawn (1, 0, n1) Q 51 [mR 144, mI x1, none, mI x3, mI x4, mI x5] [mI s0, mR 148] w :=
  Wp.s (Wp.s h)
theorem M_drawn_144_b53 {d : Nat} {n1 : Int} {Q : MV → Wd → Prop} {x1 x3 x4 x5 s0 : Int} {w : Wd} (h1 : ¬ x3 = 1 → Wp (Cw d) cd_M_drawn (1, 0, n1) Q 58 [mR 144, mI x1, none, mI x3, mI x4, mI x5] [mI s0, mR 148] w) (h2 : ¬ (¬ x3 = 1) → Wp (Cw d) cd_M_drawn (1, 0, n1) Q 56 [mR 144, mI x1, none, mI x3, mI x4, mI x5] [mI s0, mR 148] w) : Wp (Cw d) cd_M_drawn (1, 0, n1) Q 53 [mR 144, mI x1, none, mI x3, mI x4, mI x5] [mI s0, mR 148] w :=
  Wp.s (Wp.s (Wp.s ⟨fun q => h1 q, fun q => h2 q⟩))
theorem M_drawn_144_b56 {d : Nat} {n1 : Int} {Q : MV → Wd → Prop} {x1 x3 x4 x5 s0 : Int} {w : Wd} (h : Wp (Cw d) cd_M_drawn (1, 0, n1) Q 59 [mR 144, mI x1, none, mI x3, mI x4, mI x5] [mI 2, mI s0, mR 148] w) : Wp (Cw d) cd_M_drawn (1, 0, n1) Q 56 [mR 144, mI x1, none, mI x3, mI x4, mI x5] [mI s0, mR 148] w :=
  Wp.s (Wp.s h)
theorem M_drawn_144_b58 {d : Nat} {n1 : Int} {Q : MV → Wd → Prop} {x1 x3 x4 x5 s0 : Int} {w : Wd} (h : Wp (Cw d) cd_M_drawn (1, 0, n1) Q 59 [mR 144, mI x1, none, mI x3, mI x4, mI x5] [mI 0, mI s0, mR 148] w) : Wp (Cw d) cd_M_drawn (1, 0, n1) Q 58 [mR 144, mI x1, none, mI x3, mI x4, mI x5] [mI s0, mR 148] w :=
  Wp.s h
theorem M_drawn_144_b59 {d : Nat} {n1 : Int} {Q : MV → Wd → Prop} {x1 x3 x4 x5 s0 s1 : Int} {w : Wd} (g1 : (0 : Int) ≤ s1 ∧ s1 < 150) (h1 : ¬ x3 = 1 → Wp (Cw d) cd_M_drawn (1, 0, n1) Q 73 [mR 144, mI x1, none, mI x3, mI x4, mI x5] [mI (w32 ((w32 (3 * (w 144 50))) + 1)), mR 148] (ub w 148 s1.toNat s0)) (h2 : ¬ (¬ x3 = 1) → Wp (Cw d) cd_M_drawn (1, 0, n1) Q 71 [mR 144, mI x1, none, mI x3, none, mI x5] [mI (w32 ((w32 (3 * (w 144 50))) + 1)), mR 148] (ub w 148 s1.toNat s0)) : Wp (Cw d) cd_M_drawn (1, 0, n1) Q 59 [mR 144, mI x1, none, mI x3, mI x4, mI x5] [mI s0, mI s1, mR 148] w :=
  Wp.s ⟨g1, Wp.s (Wp.s (Wp.s (Wp.s (Wp.s (Wp.s (Wp.s (Wp.s (Wp.s (Wp.s (Wp.s ⟨fun q => h1 q, fun q => Wp.fgd (leA.k (leA.k (leA.f (leA.k (leA.f (leA.k leA.e)))))) (h2 q)⟩))))))))))⟩
theorem M_drawn_144_b71 {d : Nat} {n1 : Int} {Q : MV → Wd → Prop} {x1 x3 x5 s0 : Int} {w : Wd} (h : Wp (Cw d) cd_M_drawn (1, 0, n1) Q 74 [mR 144, mI x1, none, mI x3, none, mI x5] [mI 1, mI s0, mR 148] w) : Wp (Cw d) cd_M_drawn (1, 0, n1) Q 71 [mR 144, mI x1, none, mI x3, none, mI x5] [mI s0, mR 148] w :=
  Wp.s (Wp.s h)
theorem M_drawn_144_b73 {d : Nat} {n1 : Int} {Q : MV → Wd → Prop} {x1 x3 x4 x5 s0 : Int} {w : Wd} (h : Wp (Cw d) cd_M_drawn (1, 0, n1) Q 74 [mR 144, mI x1, none, mI x3, none, mI x5] [mI x4, mI s0, mR 148] w) : Wp (Cw d) cd_M_drawn (1, 0, n1) Q 73 [mR 144, mI x1, none, mI x3, mI x4, mI x5] [mI s0, mR 148] w :=
  Wp.s (Wp.fgd (leA.k (leA.k (leA.f (leA.k (leA.f (leA.k leA.e)))))) h)
theorem M_drawn_144_b74 {d : Nat} {n1 : Int} {Q : MV → Wd → Prop} {x1 x3 x5 s0 s1 : Int} {w : Wd} (g1 : (0 : Int) ≤ s1 ∧ s1 < 150) (h1 : x3 ≤ 1 → Wp (Cw d) cd_M_drawn (1, 0, n1) Q 88 [mR 144, mI x1, none, none, none, none] [mI (w32 ((w32 (3 * (w 144 50))) + 2)), mR 148] (ub w 148 s1.toNat s0)) (h2 : ¬ (x3 ≤ 1) → Wp (Cw d) cd_M_drawn (1, 0, n1) Q 86 [mR 144, mI x1, none, none, none, mI x5] [mI (w32 ((w32 (3 * (w 144 50))) + 2)), mR 148] (ub w 148 s1.toNat s0)) : Wp (Cw d) cd_M_drawn (1, 0, n1) Q 74 [mR 144, mI x1, none, mI x3, none, mI x5] [mI s0, mI s1, mR 148] w :=
  Wp.s ⟨g1, Wp.s (Wp.s (Wp.s (Wp.s (Wp.s (Wp.s (Wp.s (Wp.s (Wp.s (Wp.s (Wp.s ⟨fun q => Wp.fgd (leA.k (leA.k (leA.f (leA.f (leA.f (leA.f leA.e)))))) (h1 q), fun q => Wp.fgd (leA.k (leA.k (leA.f (leA.f (leA.f (leA.k leA.e)))))) (h2 q)⟩))))))))))⟩
theorem M_drawn_144_b86 {d : Nat} {n1 : Int} {Q : MV → Wd → Prop} {x1 x5 s0 : Int} {w : Wd} (h : Wp (Cw d) cd_M_drawn (1, 0, n1) Q 89 [mR 144, mI x1, none, none, none, none] [mI x5, mI s0, mR 148] w) : Wp (Cw d) cd_M_drawn (1, 0, n1) Q 86 [mR 144, mI x1, none, none, none, mI x5] [mI s0, mR 148] w :=
  Wp.s (Wp.s (Wp.fgd (leA.k (leA.k (leA.f (leA.f (leA.f (leA.f leA.e)))))) h))
theorem M_drawn_144_b88 {d : Nat} {n1 : Int} {Q : MV → Wd → Prop} {x1 s0 : Int} {w : Wd} (h : Wp (Cw d) cd_M_drawn (1, 0, n1) Q 89 [mR 144, mI x1, none, none, none, none] [mI ((-1)), mI s0, mR 148] w) : Wp (Cw d) cd_M_drawn (1, 0, n1) Q 88 [mR 144, mI x1, none, none, none, none] [mI s0, mR 148] w :=
  Wp.s h
theorem M_drawn_144_b89 {d : Nat} {n1 : Int} {Q : MV → Wd → Prop} {x1 s0 s1 : Int} {w : Wd} (g1 : (0 : Int) ≤ s1 ∧ s1 < 150) (h : Wp (Cw d) cd_M_drawn (1, 0, n1) Q 21 [mR 144, mI x1, none, none, none, none] [] (ub (ub w 148 s1.toNat s0) 144 50 (w32 ((w 144 50) + 1)))) : Wp (Cw d) cd_M_drawn (1, 0, n1) Q 89 [mR 144, mI x1, none, none, none, none] [mI s0, mI s1, mR 148] w :=
  Wp.s ⟨g1, Wp.s (Wp.s (Wp.s (Wp.s (Wp.s (Wp.s (Wp.s h))))))⟩
theorem M_drawn_144_b97 {d : Nat} {n1 : Int} {Q : MV → Wd → Prop} {x1 : Int} {w : Wd} (h : Cw d 233 [mR 144] w (fun _ w' => Wp (Cw d) cd_M_drawn (1, 0, n1) Q 99 [none, mI x1, none, none, none, none] [] w')) : Wp (Cw d) cd_M_drawn (1, 0, n1) Q 97 [mR 144, mI x1, none, none, none, none] [] w :=
  Wp.s (Wp.s (Cw_mono _ _ _ _ _ _ (fun r w' q => Wp.fgd (leA.f (leA.k (leA.f (leA.f (leA.f (leA.f leA.e)))))) q) h))
theorem M_drawn_144_b99 {d : Nat} {n1 : Int} {Q : MV → Wd → Prop} {x1 : Int} {w : Wd} (h : Q (mI x1) w) : Wp (Cw d) cd_M_drawn (1, 0, n1) Q 99 [none, mI x1, none, none, none, none] [] w :=
  Wp.s (Wp.s h)
theorem M_act2_144_b0 {d : Nat} {n1 : Int} {Q : MV → Wd → Prop} {x1 x2 : Int} {w : Wd} (h : Cw d 187 [mI x1, mI 0, mI (w32 ((w 146 333.toNat) - 1))] w (fun r w' => Wp (Cw d) cd_M_act2 (1, 0, n1) Q 10 [mR 144, mI x1, mI x2] [r, mR 144] w')) : Wp (Cw d) cd_M_act2 (1, 0, n1) Q 0 [mR 144, mI x1, mI x2] [] w :=
  Wp.s (Wp.s (Wp.s (Wp.s (Wp.s (Wp.s (Wp.s ⟨(by decide), Wp.s (Wp.s (Wp.s h))⟩))))))
theorem M_act2_144_b10 {d : Nat} {n1 : Int} {Q : MV → Wd → Prop} {x1 x2 s0 : Int} {w : Wd} (h1 : s0 = 0 → Wp (Cw d) cd_M_act2 (1, 0, n1) Q 16 [mR 144, mI x1, mI x2] [mR 144] w) (h2 : ¬ (s0 = 0) → Wp (Cw d) cd_M_act2 (1, 0, n1) Q 11 [mR 144, mI x1, mI x2] [mR 144] w) : Wp (Cw d) cd_M_act2 (1, 0, n1) Q 10 [mR 144, mI x1, mI x2] [mI s0, mR 144] w :=
  Wp.s ⟨fun q => h1 q, fun q => h2 q⟩
theorem M_act2_144_b11 {d : Nat} {n1 : Int} {Q : MV → Wd → Prop} {x1 x2 : Int} {w : Wd} (h : Cw d 187 [mI x2, mI 0, mI 2] w (fun r w' => Wp (Cw d) cd_M_act2 (1, 0, n1) Q 15 [mR 144, mI x1, mI x2] [r, mR 144] w')) : Wp (Cw d) cd_M_act2 (1, 0, n1) Q 11 [mR 144, mI x1, mI x2] [mR 144] w :=
  Wp.s (Wp.s (Wp.s (Wp.s h)))
theorem M_act2_144_b15 {d : Nat} {n1 : Int} {Q : MV → Wd → Prop} {x1 x2 s0 : Int} {w : Wd} (h1 : ¬ s0 = 0 → Wp (Cw d) cd_M_act2 (1, 0, n1) Q 18 [mR 144, mI x1, mI x2] [mR 144] w) (h2 : ¬ (¬ s0 = 0) → Wp (Cw d) cd_M_act2 (1, 0, n1) Q 16 [mR 144, mI x1, mI x2] [mR 144] w) : Wp (Cw d) cd_M_act2 (1, 0, n1) Q 15 [mR 144, mI x1, mI x2] [mI s0, mR 144] w :=
  Wp.s ⟨fun q => h1 q, fun q => h2 q⟩
theorem M_act2_144_b16 {d : Nat} {n1 : Int} {Q : MV → Wd → Prop} {x1 x2 : Int} {w : Wd} (h : Wp (Cw d) cd_M_act2 (1, 0, n1) Q 19 [mR 144, mI x1, mI x2] [mI 1, mR 144] w) : Wp (Cw d) cd_M_act2 (1, 0, n1) Q 16 [mR 144, mI x1, mI x2] [mR 144] w :=
  Wp.s (Wp.s h)
theorem M_act2_144_b18 {d : Nat} {n1 : Int} {Q : MV → Wd → Prop} {x1 x2 : Int} {w : Wd} (h : Wp (Cw d) cd_M_act2 (1, 0, n1) Q 19 [mR 144, mI x1, mI x2] [mI 0, mR 144] w) : Wp (Cw d) cd_M_act2 (1, 0, n1) Q 18 [mR 144, mI x1, mI x2] [mR 144] w :=
  Wp.s h
theorem M_act2_144_b19 {d : Nat} {n1 : Int} {Q : MV → Wd → Prop} {x1 x2 s0 : Int} {w : Wd} (h : Cw d 200 [mR 144, mI s0] w (fun r w' => Wp (Cw d) cd_M_act2 (1, 0, n1) Q 20 [mR 144, mI x1, mI x2] [r] w')) : Wp (Cw d) cd_M_act2 (1, 0, n1) Q 19 [mR 144, mI x1, mI x2] [mI s0, mR 144] w :=
  Wp.s h
theorem M_act2_144_b20 {d : Nat} {n1 : Int} {Q : MV → Wd → Prop} {x1 x2 s0 : Int} {w : Wd} (h1 : s0 = 0 → Wp (Cw d) cd_M_act2 (1, 0, n1) Q 23 [mR 144, mI x1, mI x2] [] w) (h2 : ¬ (s0 = 0) → Wp (Cw d) cd_M_act2 (1, 0, n1) Q 21 [none, none, none] [] w) : Wp (Cw d) cd_M_act2 (1, 0, n1) Q 20 [mR 144, mI x1, mI x2] [mI s0] w :=
  Wp.s ⟨fun q => h1 q, fun q => Wp.fgd (leA.f (leA.f (leA.f leA.e))) (h2 q)⟩
theorem M_act2_144_b21 {d : Nat} {n1 : Int} {Q : MV → Wd → Prop} {w : Wd} (h : Wp (Cw d) cd_M_act2 (1, 0, n1) Q 33 [none, none, none] [mI 0] w) : Wp (Cw d) cd_M_act2 (1, 0, n1) Q 21 [none, none, none] [] w :=
  Wp.s (Wp.s h)
theorem M_act2_144_b23 {d : Nat} {n1 : Int} {Q : MV → Wd → Prop} {x1 x2 : Int} {w : Wd} (g1 : (0 : Int) ≤ w32 ((w32 (334 + (w32 (3 * x1)))) + x2) ∧ w32 ((w32 (334 + (w32 (3 * x1)))) + x2) < 645) (h : Wp (Cw d) cd_M_act2 (1, 0, n1) Q 33 [none, none, none] [mI (w 146 (w32 ((w32 (334 + (w32 (3 * x1)))) + x2)).toNat)] w) : Wp (Cw d) cd_M_act2 (1, 0, n1) Q 23 [mR 144, mI x1, mI x2] [] w :=
  Wp.s (Wp.s (Wp.s (Wp.s (Wp.s (Wp.s (Wp.s (Wp.s (Wp.s (Wp.s ⟨g1, Wp.fgd (leA.f (leA.f (leA.f leA.e))) h⟩)))))))))
theorem M_act2_144_b33 {d : Nat} {n1 : Int} {Q : MV → Wd → Prop} {s0 : Int} {w : Wd} (h : Q (mI s0) w) : Wp (Cw d) cd_M_act2 (1, 0, n1) Q 33 [none, none, none] [mI s0] w :=
  Wp.s h
theorem X_judge_0_b0 {d : Nat} {n1 : Int} {Q : MV → Wd → Prop} {w : Wd} (h : Cw d 106 [mR 132, mR 4, mR 28] w (fun r w' => Wp (Cw d) cd_X_judge (1, 0, n1) Q 7 [none] [r] w')) : Wp (Cw d) cd_X_judge (1, 0, n1) Q 0 [mR 0] [] w :=
  Wp.s (Wp.s (Wp.s (Wp.s (Wp.s (Wp.s (Wp.s (Cw_mono _ _ _ _ _ _ (fun r w' q => Wp.fgd (leA.f leA.e) q) h)))))))
theorem X_judge_0_b7 {d : Nat} {n1 : Int} {Q : MV → Wd → Prop} {s0 : Int} {w : Wd} (h : Q (mI s0) w) : Wp (Cw d) cd_X_judge (1, 0, n1) Q 7 [none] [mI s0] w :=
  Wp.s h
theorem M_judge_144_b0 {d : Nat} {n1 : Int} {Q : MV → Wd → Prop} {w : Wd} (h : Wp (Cw d) cd_M_judge (1, 0, n1) Q 5 [mR 144, mI 0, none, none] [] (ub w 144 0 0)) : Wp (Cw d) cd_M_judge (1, 0, n1) Q 0 [mR 144, none, none, none] [] w :=
  Wp.s (Wp.s (Wp.s (Wp.s (Wp.s h))))
theorem M_judge_144_b5 {d : Nat} {n1 : Int} {Q : MV → Wd → Prop} {x1 : Int} {w : Wd} (h1 : 16 ≤ x1 → Wp (Cw d) cd_M_judge (1, 0, n1) Q 35 [mR 144, none, none, none] [] w) (h2 : ¬ (16 ≤ x1) → Wp (Cw d) cd_M_judge (1, 0, n1) Q 8 [mR 144, mI x1, none, none] [] w) : Wp (Cw d) cd_M_judge (1, 0, n1) Q 5 [mR 144, mI x1, none, none] [] w :=
  Wp.s (Wp.s (Wp.s ⟨fun q => Wp.fgd (leA.k (leA.f (leA.f (leA.f leA.e)))) (h1 q), fun q => h2 q⟩))
theorem M_judge_144_b8 {d : Nat} {n1 : Int} {Q : MV → Wd → Prop} {x1 : Int} {w : Wd} (g1 : (0 : Int) ≤ x1 ∧ x1 < 16) (g2 : (0 : Int) ≤ x1 ∧ x1 < 16) (g3 : (0 : Int) ≤ x1 ∧ x1 < 16) (g4 : (0 : Int) ≤ x1 ∧ x1 < 16) (g5 : (0 : Int) ≤ x1 ∧ x1 < 16) (h : Wp (Cw d) cd_M_judge (1, 0, n1) Q 5 [mR 144, mI (w32 (x1 + 1)), none, none] [] (ub (ub (ub (ub (ub w 169 x1.toNat ((-1))) 170 x1.toNat 1) 171 x1.toNat 0) 172 x1.toNat 0) 173 x1.toNat 0)) : Wp (Cw d) cd_M_judge (1, 0, n1) Q 8 [mR 144, mI x1, none, none] [] w :=
  Wp.s (Wp.s (Wp.s (Wp.s (Wp.s ⟨g1, Wp.s (Wp.s (Wp.s (Wp.s (Wp.s ⟨g2, Wp.s (Wp.s (Wp.s (Wp.s (Wp.s ⟨g3, Wp.s (Wp.s (Wp.s (Wp.s (Wp.s ⟨g4, Wp.s (Wp.s (Wp.s (Wp.s (Wp.s ⟨g5, Wp.s (Wp.s h)⟩))))⟩))))⟩))))⟩))))⟩))))
theorem M_judge_144_b35 {d : Nat} {n1 : Int} {Q : MV → Wd → Prop} {w : Wd} (h : Wp (Cw d) cd_M_judge (1, 0, n1) Q 48 [mR 144, mI 0, mI 0, none] [] (ub (ub (ub w 144 59 0) 144 60 0) 144 61 0)) : Wp (Cw d) cd_M_judge (1, 0, n1) Q 35 [mR 144, none, none, none] [] w :=
  Wp.s (Wp.s (Wp.s (Wp.s (Wp.s (Wp.s (Wp.s (Wp.s (Wp.s (Wp.s (Wp.s (Wp.s (Wp.s h))))))))))))
theorem M_judge_144_b48 {d : Nat} {n1 : Int} {Q : MV → Wd → Prop} {x1 x2 : Int} {w : Wd} (h1 : w 146 333.toNat ≤ x2 → Wp (Cw d) cd_M_judge (1, 0, n1) Q 69 [mR 144, mI x1, mI x2, none] [] w) (h2 : ¬ (w 146 333.toNat ≤ x2) → Wp (Cw d) cd_M_judge (1, 0, n1) Q 54 [mR 144, mI x1, mI x2, none] [] w) : Wp (Cw d) cd_M_judge (1, 0, n1) Q 48 [mR 144, mI x1, mI x2, none] [] w :=
  Wp.s (Wp.s (Wp.s (Wp.s (Wp.s ⟨(by decide), Wp.s ⟨fun q => h1 q, fun q => h2 q⟩⟩))))
theorem M_judge_144_b54 {d : Nat} {n1 : Int} {Q : MV → Wd → Prop} {x1 x2 : Int} {w : Wd} (h1 : ¬ x1 = 0 → Wp (Cw d) cd_M_judge (1, 0, n1) Q 69 [mR 144, mI x1, mI x2, none] [] w) (h2 : ¬ (¬ x1 = 0) → Wp (Cw d) cd_M_judge (1, 0, n1) Q 56 [mR 144, none, mI x2, none] [] w) : Wp (Cw d) cd_M_judge (1, 0, n1) Q 54 [mR 144, mI x1, mI x2, none] [] w :=
  Wp.s (Wp.s ⟨fun q => h1 q, fun q => Wp.fgd (leA.k (leA.f (leA.k (leA.f leA.e)))) (h2 q)⟩)
theorem M_judge_144_b56 {d : Nat} {n1 : Int} {Q : MV → Wd → Prop} {x2 : Int} {w : Wd} (h : Cw d 238 [mR 144, mI x2] w (fun r w' => Wp (Cw d) cd_M_judge (1, 0, n1) Q 59 [mR 144, none, mI x2, none] [r] w')) : Wp (Cw d) cd_M_judge (1, 0, n1) Q 56 [mR 144, none, mI x2, none] [] w :=
  Wp.s (Wp.s (Wp.s h))
theorem M_judge_144_b59 {d : Nat} {n1 : Int} {Q : MV → Wd → Prop} {x2 s0 : Int} {w : Wd} (h1 : ¬ s0 = 0 → Wp (Cw d) cd_M_judge (1, 0, n1) Q 65 [mR 144, mI s0, none, none] [mI x2] w) (h2 : ¬ (¬ s0 = 0) → Wp (Cw d) cd_M_judge (1, 0, n1) Q 63 [mR 144, mI s0, none, none] [mI x2] w) : Wp (Cw d) cd_M_judge (1, 0, n1) Q 59 [mR 144, none, mI x2, none] [mI s0] w :=
  Wp.s (Wp.s (Wp.s (Wp.s ⟨fun q => Wp.fgd (leA.k (leA.k (leA.f (leA.f leA.e)))) (h1 q), fun q => Wp.fgd (leA.k (leA.k (leA.f (leA.f leA.e)))) (h2 q)⟩)))
theorem M_judge_144_b63 {d : Nat} {n1 : Int} {Q : MV → Wd → Prop} {x1 s0 : Int} {w : Wd} (h : Wp (Cw d) cd_M_judge (1, 0, n1) Q 66 [mR 144, mI x1, none, none] [mI 1, mI s0] w) : Wp (Cw d) cd_M_judge (1, 0, n1) Q 63 [mR 144, mI x1, none, none] [mI s0] w :=
  Wp.s (Wp.s h)
theorem M_judge_144_b65 {d : Nat} {n1 : Int} {Q : MV → Wd → Prop} {x1 s0 : Int} {w : Wd} (h : Wp (Cw d) cd_M_judge (1, 0, n1) Q 66 [mR 144, mI x1, none, none] [mI 0, mI s0] w) : Wp (Cw d) cd_M_judge (1, 0, n1) Q 65 [mR 144, mI x1, none, none] [mI s0] w :=
  Wp.s h
theorem M_judge_144_b66 {d : Nat} {n1 : Int} {Q : MV → Wd → Prop} {x1 s0 s1 : Int} {w : Wd} (h : Wp (Cw d) cd_M_judge (1, 0, n1) Q 48 [mR 144, mI x1, mI (w32 (s1 + s0)), none] [] w) : Wp (Cw d) cd_M_judge (1, 0, n1) Q 66 [mR 144, mI x1, none, none] [mI s0, mI s1] w :=
  Wp.s (Wp.s (Wp.s h))
theorem M_judge_144_b69 {d : Nat} {n1 : Int} {Q : MV → Wd → Prop} {x1 x2 : Int} {w : Wd} (h : Wp (Cw d) cd_M_judge (1, 0, n1) Q 105 [mR 144, mI x1, mI x2, mI 0] [] (ub (ub (ub (ub (ub (ub w 174 0.toNat x1) 174 1.toNat (w 144 59)) 174 2.toNat (w 144 60)) 174 3.toNat (w 144 61)) 174 4.toNat 0) 144 62 (w 146 2.toNat))) : Wp (Cw d) cd_M_judge (1, 0, n1) Q 69 [mR 144, mI x1, mI x2, none] [] w :=
  Wp.s (Wp.s (Wp.s (Wp.s (Wp.s ⟨(by decide), Wp.s (Wp.s (Wp.s (Wp.s (Wp.s (Wp.s ⟨(by decide), Wp.s (Wp.s (Wp.s (Wp.s (Wp.s (Wp.s ⟨(by decide), Wp.s (Wp.s (Wp.s (Wp.s (Wp.s (Wp.s ⟨(by decide), Wp.s (Wp.s (Wp.s (Wp.s (Wp.s ⟨(by decide), Wp.s (Wp.s (Wp.s (Wp.s (Wp.s ⟨(by decide), Wp.s (Wp.s (Wp.s h))⟩))))⟩))))⟩)))))⟩)))))⟩)))))⟩))))
theorem M_judge_144_b105 {d : Nat} {n1 : Int} {Q : MV → Wd → Prop} {x1 x2 x3 : Int} {w : Wd} (h1 : w 146 2.toNat ≤ x3 → Wp (Cw d) cd_M_judge (1, 0, n1) Q 198 [none, mI x1, mI x2, none] [] w) (h2 : ¬ (w 146 2.toNat ≤ x3) → Wp (Cw d) cd_M_judge (1, 0, n1) Q 111 [mR 144, mI x1, mI x2, mI x3] [] w) : Wp (Cw d) cd_M_judge (1, 0, n1) Q 105 [mR 144, mI x1, mI x2, mI x3] [] w :=
  Wp.s (Wp.s (Wp.s (Wp.s (Wp.s ⟨(by decide), Wp.s ⟨fun q => Wp.fgd (leA.f (leA.k (leA.k (leA.f leA.e)))) (h1 q), fun q => h2 q⟩⟩))))
theorem M_judge_144_b111 {d : Nat} {n1 : Int} {Q : MV → Wd → Prop} {x1 x2 x3 : Int} {w : Wd} (g2 : (0 : Int) ≤ x3 ∧ x3 < 16) (h1 : w 169 x3.toNat = (-2) → Wp (Cw d) cd_M_judge (1, 0, n1) Q 132 [mR 144, mI x1, mI x2, mI x3] [mI (w 174 4.toNat), mI 4, mR 174] w) (h2 : ¬ (w 169 x3.toNat = (-2)) → Wp (Cw d) cd_M_judge (1, 0, n1) Q 122 [mR 144, mI x1, mI x2, mI x3] [mI (w 174 4.toNat), mI 4, mR 174] w) : Wp (Cw d) cd_M_judge (1, 0, n1) Q 111 [mR 144, mI x1, mI x2, mI x3] [] w :=
  Wp.s (Wp.s (Wp.s (Wp.s (Wp.s ⟨(by decide), Wp.s (Wp.s (Wp.s (Wp.s ⟨g2, Wp.s (Wp.s ⟨fun q => h1 q, fun q => h2 q⟩)⟩)))⟩))))
theorem M_judge_144_b122 {d : Nat} {n1 : Int} {Q : MV → Wd → Prop} {x1 x2 x3 s0 s1 : Int} {w : Wd} (h : Cw d 201 [mR 144, mI x3] w (fun r w' => Wp (Cw d) cd_M_judge (1, 0, n1) Q 127 [mR 144, mI x1, mI x2, mI x3] [r, mI (w 144 59), mI s0, mI s1, mR 174] w')) : Wp (Cw d) cd_M_judge (1, 0, n1) Q 122 [mR 144, mI x1, mI x2, mI x3] [mI s0, mI s1, mR 174] w :=
  Wp.s (Wp.s (Wp.s (Wp.s (Wp.s h))))
theorem M_judge_144_b127 {d : Nat} {n1 : Int} {Q : MV → Wd → Prop} {x1 x2 x3 s0 s1 s2 s3 : Int} {w : Wd} (h1 : s1 < s0 → Wp (Cw d) cd_M_judge (1, 0, n1) Q 132 [mR 144, mI x1, mI x2, mI x3] [mI s2, mI s3, mR 174] w) (h2 : ¬ (s1 < s0) → Wp (Cw d) cd_M_judge (1, 0, n1) Q 128 [mR 144, mI x1, mI x2, mI x3] [mI s2, mI s3, mR 174] w) : Wp (Cw d) cd_M_judge (1, 0, n1) Q 127 [mR 144, mI x1, mI x2, mI x3] [mI s0, mI s1, mI s2, mI s3, mR 174] w :=
  Wp.s ⟨fun q => h1 q, fun q => h2 q⟩
theorem M_judge_144_b128 {d : Nat} {n1 : Int} {Q : MV → Wd → Prop} {x1 x2 x3 s0 s1 : Int} {w : Wd} (h : Wp (Cw d) cd_M_judge (1, 0, n1) Q 133 [mR 144, mI x1, mI x2, mI x3] [mI (ishl 1 x3), mI s0, mI s1, mR 174] w) : Wp (Cw d) cd_M_judge (1, 0, n1) Q 128 [mR 144, mI x1, mI x2, mI x3] [mI s0, mI s1, mR 174] w :=
  Wp.s (Wp.s (Wp.s (Wp.s h)))
theorem M_judge_144_b132 {d : Nat} {n1 : Int} {Q : MV → Wd → Prop} {x1 x2 x3 s0 s1 : Int} {w : Wd} (h : Wp (Cw d) cd_M_judge (1, 0, n1) Q 133 [mR 144, mI x1, mI x2, mI x3] [mI 0, mI s0, mI s1, mR 174] w) : Wp (Cw d) cd_M_judge (1, 0, n1) Q 132 [mR 144, mI x1, mI x2, mI x3] [mI s0, mI s1, mR 174] w :=
  Wp.s h
theorem M_judge_144_b133 {d : Nat} {n1 : Int} {Q : MV → Wd → Prop} {x1 x2 x3 s0 s1 s2 : Int} {w : Wd} (g1 : (0 : Int) ≤ s2 ∧ s2 < 5) (g2 : (0 : Int) ≤ x3 ∧ x3 < 16) (h1 : ¬ w 169 x3.toNat = (-2) → Wp (Cw d) cd_M_judge (1, 0, n1) Q 148 [mR 144, mI x1, mI x2, mI x3] [mI (w32 (3 * x3)), mR 175] (ub w 174 s2.toNat (ior s1 s0))) (h2 : ¬ (¬ w 169 x3.toNat = (-2)) → Wp (Cw d) cd_M_judge (1, 0, n1) Q 146 [mR 144, mI x1, mI x2, mI x3] [mI (w32 (3 * x3)), mR 175] (ub w 174 s2.toNat (ior s1 s0))) : Wp (Cw d) cd_M_judge (1, 0, n1) Q 133 [mR 144, mI x1, mI x2, mI x3] [mI s0, mI s1, mI s2, mR 174] w :=
  Wp.s (Wp.s ⟨g1, Wp.s (Wp.s (Wp.s (Wp.s (Wp.s (Wp.s (Wp.s (Wp.s (Wp.s ⟨g2, Wp.s (Wp.s ⟨fun q => h1 q, fun q => h2 q⟩)⟩))))))))⟩)
theorem M_judge_144_b146 {d : Nat} {n1 : Int} {Q : MV → Wd → Prop} {x1 x2 x3 s0 : Int} {w : Wd} (h : Wp (Cw d) cd_M_judge (1, 0, n1) Q 168 [mR 144, mI x1, mI x2, mI x3] [mI ((-1)), mI s0, mR 175] w) : Wp (Cw d) cd_M_judge (1, 0, n1) Q 146 [mR 144, mI x1, mI x2, mI x3] [mI s0, mR 175] w :=
  Wp.s (Wp.s h)
theorem M_judge_144_b148 {d : Nat} {n1 : Int} {Q : MV → Wd → Prop} {x1 x2 x3 s0 : Int} {w : Wd} (g1 : (0 : Int) ≤ x3 ∧ x3 < 16) (h1 : 0 ≤ w 169 x3.toNat → Wp (Cw d) cd_M_judge (1, 0, n1) Q 164 [mR 144, mI x1, mI x2, mI x3] [mI s0, mR 175] w) (h2 : ¬ (0 ≤ w 169 x3.toNat) → Wp (Cw d) cd_M_judge (1, 0, n1) Q 153 [mR 144, mI x1, mI x2, mI x3] [mI s0, mR 175] w) : Wp (Cw d) cd_M_judge (1, 0, n1) Q 148 [mR 144, mI x1, mI x2, mI x3] [mI s0, mR 175] w :=
  Wp.s (Wp.s (Wp.s (Wp.s ⟨g1, Wp.s ⟨fun q => h1 q, fun q => h2 q⟩⟩)))
theorem M_judge_144_b153 {d : Nat} {n1 : Int} {Q : MV → Wd → Prop} {x1 x2 x3 s0 : Int} {w : Wd} (g1 : (0 : Int) ≤ w32 ((w32 (29 + (w32 (5 * x3)))) + 2) ∧ w32 ((w32 (29 + (w32 (5 * x3)))) + 2) < 645) (h : Wp (Cw d) cd_M_judge (1, 0, n1) Q 168 [mR 144, mI x1, mI x2, mI x3] [mI (w 146 (w32 ((w32 (29 + (w32 (5 * x3)))) + 2)).toNat), mI s0, mR 175] w) : Wp (Cw d) cd_M_judge (1, 0, n1) Q 153 [mR 144, mI x1, mI x2, mI x3] [mI s0, mR 175] w :=
  Wp.s (Wp.s (Wp.s (Wp.s (Wp.s (Wp.s (Wp.s (Wp.s (Wp.s (Wp.s ⟨g1, Wp.s h⟩)))))))))
theorem M_judge_144_b164 {d : Nat} {n1 : Int} {Q : MV → Wd → Prop} {x1 x2 x3 s0 : Int} {w : Wd} (g1 : (0 : Int) ≤ x3 ∧ x3 < 16) (h : Wp (Cw d) cd_M_judge (1, 0, n1) Q 168 [mR 144, mI x1, mI x2, mI x3] [mI (w 169 x3.toNat), mI s0, mR 175] w) : Wp (Cw d) cd_M_judge (1, 0, n1) Q 164 [mR 144, mI x1, mI x2, mI x3] [mI s0, mR 175] w :=
  Wp.s (Wp.s (Wp.s (Wp.s ⟨g1, h⟩)))
theorem M_judge_144_b168 {d : Nat} {n1 : Int} {Q : MV → Wd → Prop} {x1 x2 x3 s0 s1 : Int} {w : Wd} (g1 : (0 : Int) ≤ s1 ∧ s1 < 48) (g2 : (0 : Int) ≤ x3 ∧ x3 < 16) (g3 : (0 : Int) ≤ w32 ((w32 (3 * x3)) + 1) ∧ w32 ((w32 (3 * x3)) + 1) < 48) (h : Cw d 239 [mR 144, mI x3] (ub (ub w 175 s1.toNat s0) 175 (w32 ((w32 (3 * x3)) + 1)).toNat (w 170 x3.toNat)) (fun r w' => Wp (Cw d) cd_M_judge (1, 0, n1) Q 191 [mR 144, mI x1, mI x2, mI x3] [r, mI (w32 ((w32 (3 * x3)) + 2)), mR 175] w')) : Wp (Cw d) cd_M_judge (1, 0, n1) Q 168 [mR 144, mI x1, mI x2, mI x3] [mI s0, mI s1, mR 175] w :=
  Wp.s ⟨g1, Wp.s (Wp.s (Wp.s (Wp.s (Wp.s (Wp.s (Wp.s (Wp.s (Wp.s (Wp.s (Wp.s ⟨g2, Wp.s ⟨g3, Wp.s (Wp.s (Wp.s (Wp.s (Wp.s (Wp.s (Wp.s (Wp.s (Wp.s (Wp.s h)))))))))⟩⟩))))))))))⟩
theorem M_judge_144_b191 {d : Nat} {n1 : Int} {Q : MV → Wd → Prop} {x1 x2 x3 s0 s1 : Int} {w : Wd} (h1 : ¬ s0 = 0 → Wp (Cw d) cd_M_judge (1, 0, n1) Q 194 [mR 144, mI x1, mI x2, mI x3] [mI s1, mR 175] w) (h2 : ¬ (¬ s0 = 0) → Wp (Cw d) cd_M_judge (1, 0, n1) Q 192 [mR 144, mI x1, mI x2, mI x3] [mI s1, mR 175] w) : Wp (Cw d) cd_M_judge (1, 0, n1) Q 191 [mR 144, mI x1, mI x2, mI x3] [mI s0, mI s1, mR 175] w :=
  Wp.s ⟨fun q => h1 q, fun q => h2 q⟩
theorem M_judge_144_b192 {d : Nat} {n1 : Int} {Q : MV → Wd → Prop} {x1 x2 x3 s0 : Int} {w : Wd} (h : Wp (Cw d) cd_M_judge (1, 0, n1) Q 195 [mR 144, mI x1, mI x2, mI x3] [mI 1, mI s0, mR 175] w) : Wp (Cw d) cd_M_judge (1, 0, n1) Q 192 [mR 144, mI x1, mI x2, mI x3] [mI s0, mR 175] w :=
  Wp.s (Wp.s h)
theorem M_judge_144_b194 {d : Nat} {n1 : Int} {Q : MV → Wd → Prop} {x1 x2 x3 s0 : Int} {w : Wd} (h : Wp (Cw d) cd_M_judge (1, 0, n1) Q 195 [mR 144, mI x1, mI x2, mI x3] [mI 0, mI s0, mR 175] w) : Wp (Cw d) cd_M_judge (1, 0, n1) Q 194 [mR 144, mI x1, mI x2, mI x3] [mI s0, mR 175] w :=
  Wp.s h
theorem M_judge_144_b195 {d : Nat} {n1 : Int} {Q : MV → Wd → Prop} {x1 x2 x3 s0 s1 : Int} {w : Wd} (g1 : (0 : Int) ≤ s1 ∧ s1 < 48) (h : Wp (Cw d) cd_M_judge (1, 0, n1) Q 105 [mR 144, mI x1, mI x2, mI (w32 (x3 + 1))] [] (ub w 175 s1.toNat s0)) : Wp (Cw d) cd_M_judge (1, 0, n1) Q 195 [mR 144, mI x1, mI x2, mI x3] [mI s0, mI s1, mR 175] w :=
  Wp.s ⟨g1, Wp.s (Wp.s h)⟩
theorem M_judge_144_b198 {d : Nat} {n1 : Int} {Q : MV → Wd → Prop} {x1 x2 : Int} {w : Wd} (h1 : x1 ≤ 0 → Wp (Cw d) cd_M_judge (1, 0, n1) Q 202 [none, none, none, none] [] w) (h2 : ¬ (x1 ≤ 0) → Wp (Cw d) cd_M_judge (1, 0, n1) Q 200 [none, none, mI x2, none] [] w) : Wp (Cw d) cd_M_judge (1, 0, n1) Q 198 [none, mI x1, mI x2, none] [] w :=
  Wp.s (Wp.s ⟨fun q => Wp.fgd (leA.f (leA.f (leA.f (leA.f leA.e)))) (h1 q), fun q => Wp.fgd (leA.f (leA.f (leA.k (leA.f leA.e)))) (h2 q)⟩)
theorem M_judge_144_b200 {d : Nat} {n1 : Int} {Q : MV → Wd → Prop} {x2 : Int} {w : Wd} (h : Wp (Cw d) cd_M_judge (1, 0, n1) Q 203 [none, none, none, none] [mI x2] w) : Wp (Cw d) cd_M_judge (1, 0, n1) Q 200 [none, none, mI x2, none] [] w :=
  Wp.s (Wp.s (Wp.fgd (leA.f (leA.f (leA.f (leA.f leA.e)))) h))
theorem M_judge_144_b202 {d : Nat} {n1 : Int} {Q : MV → Wd → Prop} {w : Wd} (h : Wp (Cw d) cd_M_judge (1, 0, n1) Q 203 [none, none, none, none] [mI ((-1))] w) : Wp (Cw d) cd_M_judge (1, 0, n1) Q 202 [none, none, none, none] [] w :=
  Wp.s h
theorem M_judge_144_b203 {d : Nat} {n1 : Int} {Q : MV → Wd → Prop} {s0 : Int} {w : Wd} (h : Q (mI s0) w) : Wp (Cw d) cd_M_judge (1, 0, n1) Q 203 [none, none, none, none] [mI s0] w :=
  Wp.s h
theorem X_judged_0_b0 {d : Nat} {n1 : Int} {Q : MV → Wd → Prop} {x1 : Int} {w : Wd} (h1 : ¬ w 132 0 = 0 → Wp (Cw d) cd_X_judged (1, 0, n1) Q 6 [mR 0, mI x1] [] w) (h2 : ¬ (¬ w 132 0 = 0) → Wp (Cw d) cd_X_judged (1, 0, n1) Q 4 [none, none] [] w) : Wp (Cw d) cd_X_judged (1, 0, n1) Q 0 [mR 0, mI x1] [] w :=
  Wp.s (Wp.s (Wp.s (Wp.s ⟨fun q => h1 q, fun q => Wp.fgd (leA.f (leA.f leA.e)) (h2 q)⟩)))
theorem X_judged_0_b4 {d : Nat} {n1 : Int} {Q : MV → Wd → Prop} {w : Wd} (h : Q (mI ((-1))) w) : Wp (Cw d) cd_X_judged (1, 0, n1) Q 4 [none, none] [] w :=
  Wp.s (Wp.s h)
theorem X_judged_0_b6 {d : Nat} {n1 : Int} {Q : MV → Wd → Prop} {x1 : Int} {w : Wd} (h0 : x1 = 0 → Wp (Cw d) cd_X_judged (1, 0, n1) Q 8 [mR 0, none] [] w) (h1 : x1 = 1 → Wp (Cw d) cd_X_judged (1, 0, n1) Q 12 [mR 0, none] [] w) (h2 : x1 = 2 → Wp (Cw d) cd_X_judged (1, 0, n1) Q 16 [mR 0, none] [] w) (h3 : x1 = 3 → Wp (Cw d) cd_X_judged (1, 0, n1) Q 20 [mR 0, none] [] w) (h4 : x1 = 4 → Wp (Cw d) cd_X_judged (1, 0, n1) Q 24 [mR 0, none] [] w) (hd : ¬ x1 = 0 → ¬ x1 = 1 → ¬ x1 = 2 → ¬ x1 = 3 → ¬ x1 = 4 → Wp (Cw d) cd_X_judged (1, 0, n1) Q 28 [none, none] [] w) : Wp (Cw d) cd_X_judged (1, 0, n1) Q 6 [mR 0, mI x1] [] w :=
  Wp.s (Wp.s ⟨fun q => Wp.fgd (leA.k (leA.f leA.e)) (h0 q), fun q0 => ⟨fun q => Wp.fgd (leA.k (leA.f leA.e)) (h1 q), fun q1 => ⟨fun q => Wp.fgd (leA.k (leA.f leA.e)) (h2 q), fun q2 => ⟨fun q => Wp.fgd (leA.k (leA.f leA.e)) (h3 q), fun q3 => ⟨fun q => Wp.fgd (leA.k (leA.f leA.e)) (h4 q), fun q4 => Wp.fgd (leA.f (leA.f leA.e)) (hd q0 q1 q2 q3 q4)⟩⟩⟩⟩⟩)
theorem X_judged_0_b8 {d : Nat} {n1 : Int} {Q : MV → Wd → Prop} {w : Wd} (h : Q (mI (w 132 1)) w) : Wp (Cw d) cd_X_judged (1, 0, n1) Q 8 [mR 0, none] [] w :=
  Wp.s (Wp.s (Wp.s (Wp.s h)))
theorem X_judged_0_b12 {d : Nat} {n1 : Int} {Q : MV → Wd → Prop} {w : Wd} (h : Q (mI (w 132 2)) w) : Wp (Cw d) cd_X_judged (1, 0, n1) Q 12 [mR 0, none] [] w :=
  Wp.s (Wp.s (Wp.s (Wp.s h)))
theorem X_judged_0_b16 {d : Nat} {n1 : Int} {Q : MV → Wd → Prop} {w : Wd} (h : Q (mI (w 132 3)) w) : Wp (Cw d) cd_X_judged (1, 0, n1) Q 16 [mR 0, none] [] w :=
  Wp.s (Wp.s (Wp.s (Wp.s h)))
theorem X_judged_0_b20 {d : Nat} {n1 : Int} {Q : MV → Wd → Prop} {w : Wd} (h : Q (mI (w 132 4)) w) : Wp (Cw d) cd_X_judged (1, 0, n1) Q 20 [mR 0, none] [] w :=
  Wp.s (Wp.s (Wp.s (Wp.s h)))
theorem X_judged_0_b24 {d : Nat} {n1 : Int} {Q : MV → Wd → Prop} {w : Wd} (h : Q (mI (w 132 5)) w) : Wp (Cw d) cd_X_judged (1, 0, n1) Q 24 [mR 0, none] [] w :=
  Wp.s (Wp.s (Wp.s (Wp.s h)))
theorem X_judged_0_b28 {d : Nat} {n1 : Int} {Q : MV → Wd → Prop} {w : Wd} (h : Q (mI ((-1))) w) : Wp (Cw d) cd_X_judged (1, 0, n1) Q 28 [none, none] [] w :=
  Wp.s (Wp.s h)
theorem M_judged_144_b0 {d : Nat} {n1 : Int} {Q : MV → Wd → Prop} {x1 : Int} {w : Wd} (h1 : (up1 (w 144) 0 0) 62 < 0 → Wp (Cw d) cd_M_judged (1, 0, n1) Q 16 [none, none] [] (ub w 144 0 0)) (h2 : ¬ ((up1 (w 144) 0 0) 62 < 0) → Wp (Cw d) cd_M_judged (1, 0, n1) Q 6 [mR 144, mI x1] [] (ub w 144 0 0)) : Wp (Cw d) cd_M_judged (1, 0, n1) Q 0 [mR 144, mI x1] [] w :=
  Wp.s (Wp.s (Wp.s (Wp.s (Wp.s (Wp.s ⟨fun q => Wp.fgd (leA.f (leA.f leA.e)) (h1 q), fun q => h2 q⟩)))))
theorem M_judged_144_b6 {d : Nat} {n1 : Int} {Q : MV → Wd → Prop} {x1 : Int} {w : Wd} (h : Cw d 187 [mI x1, mI 0, mI 4] w (fun r w' => Wp (Cw d) cd_M_judged (1, 0, n1) Q 10 [mR 144, mI x1] [r] w')) : Wp (Cw d) cd_M_judged (1, 0, n1) Q 6 [mR 144, mI x1] [] w :=
  Wp.s (Wp.s (Wp.s (Wp.s h)))
theorem M_judged_144_b10 {d : Nat} {n1 : Int} {Q : MV → Wd → Prop} {x1 s0 : Int} {w : Wd} (h1 : s0 = 0 → Wp (Cw d) cd_M_judged (1, 0, n1) Q 16 [none, none] [] w) (h2 : ¬ (s0 = 0) → Wp (Cw d) cd_M_judged (1, 0, n1) Q 11 [mR 144, mI x1] [] w) : Wp (Cw d) cd_M_judged (1, 0, n1) Q 10 [mR 144, mI x1] [mI s0] w :=
  Wp.s ⟨fun q => Wp.fgd (leA.f (leA.f leA.e)) (h1 q), fun q => h2 q⟩
theorem M_judged_144_b11 {d : Nat} {n1 : Int} {Q : MV → Wd → Prop} {x1 : Int} {w : Wd} (g1 : (0 : Int) ≤ x1 ∧ x1 < 5) (h : Wp (Cw d) cd_M_judged (1, 0, n1) Q 17 [none, none] [mI (w 174 x1.toNat)] w) : Wp (Cw d) cd_M_judged (1, 0, n1) Q 11 [mR 144, mI x1] [] w :=
  Wp.s (Wp.s (Wp.s (Wp.s ⟨g1, Wp.s (Wp.fgd (leA.f (leA.f leA.e)) h)⟩)))
theorem M_judged_144_b16 {d : Nat} {n1 : Int} {Q : MV → Wd → Prop} {w : Wd} (h : Wp (Cw d) cd_M_judged (1, 0, n1) Q 17 [none, none] [mI ((-1))] w) : Wp (Cw d) cd_M_judged (1, 0, n1) Q 16 [none, none] [] w :=
  Wp.s h
theorem M_judged_144_b17 {d : Nat} {n1 : Int} {Q : MV → Wd → Prop} {s0 : Int} {w : Wd} (h : Q (mI s0) w) : Wp (Cw d) cd_M_judged (1, 0, n1) Q 17 [none, none] [mI s0] w :=
  Wp.s h
theorem X_holds_0_b0 {d : Nat} {n1 : Int} {Q : MV → Wd → Prop} {x1 x2 : Int} {w : Wd} (h1 : w 132 0 = 0 → Wp (Cw d) cd_X_holds (1, 0, n1) Q 11 [none, none, none] [] w) (h2 : ¬ (w 132 0 = 0) → Wp (Cw d) cd_X_holds (1, 0, n1) Q 4 [mR 0, mI x1, mI x2] [] w) : Wp (Cw d) cd_X_holds (1, 0, n1) Q 0 [mR 0, mI x1, mI x2] [] w :=
  Wp.s (Wp.s (Wp.s (Wp.s ⟨fun q => Wp.fgd (leA.f (leA.f (leA.f leA.e))) (h1 q), fun q => h2 q⟩)))
theorem X_holds_0_b4 {d : Nat} {n1 : Int} {Q : MV → Wd → Prop} {x1 x2 : Int} {w : Wd} (h1 : x1 < 0 → Wp (Cw d) cd_X_holds (1, 0, n1) Q 11 [none, none, none] [] w) (h2 : ¬ (x1 < 0) → Wp (Cw d) cd_X_holds (1, 0, n1) Q 6 [mR 0, mI x1, mI x2] [] w) : Wp (Cw d) cd_X_holds (1, 0, n1) Q 4 [mR 0, mI x1, mI x2] [] w :=
  Wp.s (Wp.s ⟨fun q => Wp.fgd (leA.f (leA.f (leA.f leA.e))) (h1 q), fun q => h2 q⟩)
theorem X_holds_0_b6 {d : Nat} {n1 : Int} {Q : MV → Wd → Prop} {x1 x2 : Int} {w : Wd} (h1 : x1 < w 132 6 → Wp (Cw d) cd_X_holds (1, 0, n1) Q 13 [mR 0, mI x1, mI x2] [] w) (h2 : ¬ (x1 < w 132 6) → Wp (Cw d) cd_X_holds (1, 0, n1) Q 11 [none, none, none] [] w) : Wp (Cw d) cd_X_holds (1, 0, n1) Q 6 [mR 0, mI x1, mI x2] [] w :=
  Wp.s (Wp.s (Wp.s (Wp.s (Wp.s ⟨fun q => h1 q, fun q => Wp.fgd (leA.f (leA.f (leA.f leA.e))) (h2 q)⟩))))
theorem X_holds_0_b11 {d : Nat} {n1 : Int} {Q : MV → Wd → Prop} {w : Wd} (h : Q (mI ((-1))) w) : Wp (Cw d) cd_X_holds (1, 0, n1) Q 11 [none, none, none] [] w :=
  Wp.s (Wp.s h)
theorem X_holds_0_b13 {d : Nat} {n1 : Int} {Q : MV → Wd → Prop} {x1 x2 : Int} {w : Wd} (h0 : x2 = 0 → Wp (Cw d) cd_X_holds (1, 0, n1) Q 15 [mR 0, mI x1, none] [] w) (h1 : x2 = 1 → Wp (Cw d) cd_X_holds (1, 0, n1) Q 21 [mR 0, mI x1, none] [] w) (h2 : x2 = 2 → Wp (Cw d) cd_X_holds (1, 0, n1) Q 27 [mR 0, mI x1, none] [] w) (hd : ¬ x2 = 0 → ¬ x2 = 1 → ¬ x2 = 2 → Wp (Cw d) cd_X_holds (1, 0, n1) Q 35 [none, none, none] [] w) : Wp (Cw d) cd_X_holds (1, 0, n1) Q 13 [mR 0, mI x1, mI x2] [] w :=
  Wp.s (Wp.s ⟨fun q => Wp.fgd (leA.k (leA.k (leA.f leA.e))) (h0 q), fun q0 => ⟨fun q => Wp.fgd (leA.k (leA.k (leA.f leA.e))) (h1 q), fun q1 => ⟨fun q => Wp.fgd (leA.k (leA.k (leA.f leA.e))) (h2 q), fun q2 => Wp.fgd (leA.f (leA.f (leA.f leA.e))) (hd q0 q1 q2)⟩⟩⟩)
theorem X_holds_0_b15 {d : Nat} {n1 : Int} {Q : MV → Wd → Prop} {x1 : Int} {w : Wd} (g1 : (0 : Int) ≤ x1 ∧ x1 < 16) (h : Q (mI (w 133 x1.toNat)) w) : Wp (Cw d) cd_X_holds (1, 0, n1) Q 15 [mR 0, mI x1, none] [] w :=
  Wp.s (Wp.s (Wp.s (Wp.s (Wp.s ⟨g1, Wp.s h⟩))))
theorem X_holds_0_b21 {d : Nat} {n1 : Int} {Q : MV → Wd → Prop} {x1 : Int} {w : Wd} (g1 : (0 : Int) ≤ x1 ∧ x1 < 16) (h : Q (mI (w 134 x1.toNat)) w) : Wp (Cw d) cd_X_holds (1, 0, n1) Q 21 [mR 0, mI x1, none] [] w :=
  Wp.s (Wp.s (Wp.s (Wp.s (Wp.s ⟨g1, Wp.s h⟩))))
theorem X_holds_0_b27 {d : Nat} {n1 : Int} {Q : MV → Wd → Prop} {x1 : Int} {w : Wd} (h : Q (mI (iand (ishr (w 132 7) x1) 1)) w) : Wp (Cw d) cd_X_holds (1, 0, n1) Q 27 [mR 0, mI x1, none] [] w :=
  Wp.s (Wp.s (Wp.s (Wp.s (Wp.s (Wp.s (Wp.s (Wp.s h)))))))
theorem X_holds_0_b35 {d : Nat} {n1 : Int} {Q : MV → Wd → Prop} {w : Wd} (h : Q (mI ((-1))) w) : Wp (Cw d) cd_X_holds (1, 0, n1) Q 35 [none, none, none] [] w :=
  Wp.s (Wp.s h)
theorem M_holds_144_b0 {d : Nat} {n1 : Int} {Q : MV → Wd → Prop} {x1 x2 : Int} {w : Wd} (h : Cw d 187 [mI x1, mI 0, mI (w32 (((up1 (w 144) 0 0) 62) - 1))] (ub w 144 0 0) (fun r w' => Wp (Cw d) cd_M_holds (1, 0, n1) Q 10 [mR 144, mI x1, mI x2] [r] w')) : Wp (Cw d) cd_M_holds (1, 0, n1) Q 0 [mR 144, mI x1, mI x2] [] w :=
  Wp.s (Wp.s (Wp.s (Wp.s (Wp.s (Wp.s (Wp.s (Wp.s (Wp.s (Wp.s h)))))))))
theorem M_holds_144_b10 {d : Nat} {n1 : Int} {Q : MV → Wd → Prop} {x1 x2 s0 : Int} {w : Wd} (h1 : s0 = 0 → Wp (Cw d) cd_M_holds (1, 0, n1) Q 25 [none, none, none] [] w) (h2 : ¬ (s0 = 0) → Wp (Cw d) cd_M_holds (1, 0, n1) Q 11 [mR 144, mI x1, mI x2] [] w) : Wp (Cw d) cd_M_holds (1, 0, n1) Q 10 [mR 144, mI x1, mI x2] [mI s0] w :=
  Wp.s ⟨fun q => Wp.fgd (leA.f (leA.f (leA.f leA.e))) (h1 q), fun q => h2 q⟩
theorem M_holds_144_b11 {d : Nat} {n1 : Int} {Q : MV → Wd → Prop} {x1 x2 : Int} {w : Wd} (h : Cw d 187 [mI x2, mI 0, mI 2] w (fun r w' => Wp (Cw d) cd_M_holds (1, 0, n1) Q 15 [mR 144, mI x1, mI x2] [r] w')) : Wp (Cw d) cd_M_holds (1, 0, n1) Q 11 [mR 144, mI x1, mI x2] [] w :=
  Wp.s (Wp.s (Wp.s (Wp.s h)))
theorem M_holds_144_b15 {d : Nat} {n1 : Int} {Q : MV → Wd → Prop} {x1 x2 s0 : Int} {w : Wd} (h1 : s0 = 0 → Wp (Cw d) cd_M_holds (1, 0, n1) Q 25 [none, none, none] [] w) (h2 : ¬ (s0 = 0) → Wp (Cw d) cd_M_holds (1, 0, n1) Q 16 [mR 144, mI x1, mI x2] [] w) : Wp (Cw d) cd_M_holds (1, 0, n1) Q 15 [mR 144, mI x1, mI x2] [mI s0] w :=
  Wp.s ⟨fun q => Wp.fgd (leA.f (leA.f (leA.f leA.e))) (h1 q), fun q => h2 q⟩
theorem M_holds_144_b16 {d : Nat} {n1 : Int} {Q : MV → Wd → Prop} {x1 x2 : Int} {w : Wd} (g1 : (0 : Int) ≤ w32 ((w32 (3 * x1)) + x2) ∧ w32 ((w32 (3 * x1)) + x2) < 48) (h : Wp (Cw d) cd_M_holds (1, 0, n1) Q 26 [none, none, none] [mI (w 175 (w32 ((w32 (3 * x1)) + x2)).toNat)] w) : Wp (Cw d) cd_M_holds (1, 0, n1) Q 16 [mR 144, mI x1, mI x2] [] w :=
  Wp.s (Wp.s (Wp.s (Wp.s (Wp.s (Wp.s (Wp.s (Wp.s ⟨g1, Wp.s (Wp.fgd (leA.f (leA.f (leA.f leA.e))) h)⟩)))))))
theorem M_holds_144_b25 {d : Nat} {n1 : Int} {Q : MV → Wd → Prop} {w : Wd} (h : Wp (Cw d) cd_M_holds (1, 0, n1) Q 26 [none, none, none] [mI ((-1))] w) : Wp (Cw d) cd_M_holds (1, 0, n1) Q 25 [none, none, none] [] w :=
  Wp.s h
theorem M_holds_144_b26 {d : Nat} {n1 : Int} {Q : MV → Wd → Prop} {s0 : Int} {w : Wd} (h : Q (mI s0) w) : Wp (Cw d) cd_M_holds (1, 0, n1) Q 26 [none, none, none] [mI s0] w :=
  Wp.s h
theorem X_ways_0_b0 {d : Nat} {n1 : Int} {Q : MV → Wd → Prop} {x1 x2 x3 : Int} {w : Wd} (h : Cw d 53 [mR 4, mI x1] w (fun r w' => Wp (Cw d) cd_X_ways (1, 0, n1) Q 4 [mR 0, mI x1, mI x2, mI x3, none] [r] w')) : Wp (Cw d) cd_X_ways (1, 0, n1) Q 0 [mR 0, mI x1, mI x2, mI x3, none] [] w :=
  Wp.s (Wp.s (Wp.s (Wp.s h)))
theorem X_ways_0_b4 {d : Nat} {n1 : Int} {Q : MV → Wd → Prop} {x1 x2 x3 s0 : Int} {w : Wd} (h1 : s0 = 0 → Wp (Cw d) cd_X_ways (1, 0, n1) Q 16 [none, none, none, none, none] [] w) (h2 : ¬ (s0 = 0) → Wp (Cw d) cd_X_ways (1, 0, n1) Q 5 [mR 0, mI x1, mI x2, mI x3, none] [] w) : Wp (Cw d) cd_X_ways (1, 0, n1) Q 4 [mR 0, mI x1, mI x2, mI x3, none] [mI s0] w :=
  Wp.s ⟨fun q => Wp.fgd (leA.f (leA.f (leA.f (leA.f (leA.f leA.e))))) (h1 q), fun q => h2 q⟩
theorem X_ways_0_b5 {d : Nat} {n1 : Int} {Q : MV → Wd → Prop} {x1 x2 x3 : Int} {w : Wd} (h : Cw d 54 [mR 4, mI x2] w (fun r w' => Wp (Cw d) cd_X_ways (1, 0, n1) Q 9 [mR 0, mI x1, mI x2, mI x3, none] [r] w')) : Wp (Cw d) cd_X_ways (1, 0, n1) Q 5 [mR 0, mI x1, mI x2, mI x3, none] [] w :=
  Wp.s (Wp.s (Wp.s (Wp.s h)))
theorem X_ways_0_b9 {d : Nat} {n1 : Int} {Q : MV → Wd → Prop} {x1 x2 x3 s0 : Int} {w : Wd} (h1 : s0 = 0 → Wp (Cw d) cd_X_ways (1, 0, n1) Q 16 [none, none, none, none, none] [] w) (h2 : ¬ (s0 = 0) → Wp (Cw d) cd_X_ways (1, 0, n1) Q 10 [mR 0, mI x1, mI x2, mI x3, none] [] w) : Wp (Cw d) cd_X_ways (1, 0, n1) Q 9 [mR 0, mI x1, mI x2, mI x3, none] [mI s0] w :=
  Wp.s ⟨fun q => Wp.fgd (leA.f (leA.f (leA.f (leA.f (leA.f leA.e))))) (h1 q), fun q => h2 q⟩
theorem X_ways_0_b10 {d : Nat} {n1 : Int} {Q : MV → Wd → Prop} {x1 x2 x3 : Int} {w : Wd} (h1 : x3 < 2 → Wp (Cw d) cd_X_ways (1, 0, n1) Q 16 [none, none, none, none, none] [] w) (h2 : ¬ (x3 < 2) → Wp (Cw d) cd_X_ways (1, 0, n1) Q 13 [mR 0, mI x1, mI x2, mI x3, none] [] w) : Wp (Cw d) cd_X_ways (1, 0, n1) Q 10 [mR 0, mI x1, mI x2, mI x3, none] [] w :=
  Wp.s (Wp.s (Wp.s ⟨fun q => Wp.fgd (leA.f (leA.f (leA.f (leA.f (leA.f leA.e))))) (h1 q), fun q => h2 q⟩))
theorem X_ways_0_b13 {d : Nat} {n1 : Int} {Q : MV → Wd → Prop} {x1 x2 x3 : Int} {w : Wd} (h1 : x3 ≤ 6 → Wp (Cw d) cd_X_ways (1, 0, n1) Q 18 [mR 0, mI x1, mI x2, mI x3, none] [] w) (h2 : ¬ (x3 ≤ 6) → Wp (Cw d) cd_X_ways (1, 0, n1) Q 16 [none, none, none, none, none] [] w) : Wp (Cw d) cd_X_ways (1, 0, n1) Q 13 [mR 0, mI x1, mI x2, mI x3, none] [] w :=
  Wp.s (Wp.s (Wp.s ⟨fun q => h1 q, fun q => Wp.fgd (leA.f (leA.f (leA.f (leA.f (leA.f leA.e))))) (h2 q)⟩))
theorem X_ways_0_b16 {d : Nat} {n1 : Int} {Q : MV → Wd → Prop} {w : Wd} (h : Q (mI ((-1))) w) : Wp (Cw d) cd_X_ways (1, 0, n1) Q 16 [none, none, none, none, none] [] w :=
  Wp.s (Wp.s h)
theorem X_ways_0_b18 {d : Nat} {n1 : Int} {Q : MV → Wd → Prop} {x1 x2 x3 : Int} {w : Wd} (h : Cw d 117 [mR 0] w (fun r w' => Wp (Cw d) cd_X_ways (1, 0, n1) Q 20 [none, mI x1, mI x2, mI x3, none] [r] w')) : Wp (Cw d) cd_X_ways (1, 0, n1) Q 18 [mR 0, mI x1, mI x2, mI x3, none] [] w :=
  Wp.s (Wp.s (Cw_mono _ _ _ _ _ _ (fun r w' q => Wp.fgd (leA.f (leA.k (leA.k (leA.k (leA.f leA.e))))) q) h))
theorem X_ways_0_b20 {d : Nat} {n1 : Int} {Q : MV → Wd → Prop} {x1 x2 x3 : Int} {w : Wd} (h : Cw d 59 [mR 113, mI x1] (ub w 114 1 x3) (fun _ w' => Wp (Cw d) cd_X_ways (1, 0, n1) Q 29 [none, none, mI x2, none, mR 113] [] w')) : Wp (Cw d) cd_X_ways (1, 0, n1) Q 20 [none, mI x1, mI x2, mI x3, none] [mR 112] w :=
  Wp.s (Wp.s (Wp.s (Wp.s (Wp.s (Wp.s (Wp.s (Wp.s (Wp.s (Cw_mono _ _ _ _ _ _ (fun r w' q => Wp.fgd (leA.f (leA.f (leA.k (leA.f (leA.k leA.e))))) q) h)))))))))
theorem X_ways_0_b29 {d : Nat} {n1 : Int} {Q : MV → Wd → Prop} {x2 : Int} {w : Wd} (g1 : (0 : Int) ≤ x2 ∧ x2 < 8) (h : Q (mI (w 120 x2.toNat)) w) : Wp (Cw d) cd_X_ways (1, 0, n1) Q 29 [none, none, mI x2, none, mR 113] [] w :=
  Wp.s (Wp.s (Wp.s (Wp.s ⟨g1, Wp.s h⟩)))
theorem M_ways_144_b0 {d : Nat} {n1 : Int} {Q : MV → Wd → Prop} {x1 x2 x3 : Int} {w : Wd} (h : Cw d 199 [mR 144, mI x1] (ub w 144 0 0) (fun r w' => Wp (Cw d) cd_M_ways (1, 0, n1) Q 6 [mR 144, mI x1, mI x2, mI x3, none, none] [r] w')) : Wp (Cw d) cd_M_ways (1, 0, n1) Q 0 [mR 144, mI x1, mI x2, mI x3, none, none] [] w :=
  Wp.s (Wp.s (Wp.s (Wp.s (Wp.s (Wp.s h)))))
theorem M_ways_144_b6 {d : Nat} {n1 : Int} {Q : MV → Wd → Prop} {x1 x2 x3 s0 : Int} {w : Wd} (h1 : s0 = 0 → Wp (Cw d) cd_M_ways (1, 0, n1) Q 16 [none, none, none, none, none, none] [] w) (h2 : ¬ (s0 = 0) → Wp (Cw d) cd_M_ways (1, 0, n1) Q 7 [mR 144, mI x1, mI x2, mI x3, none, none] [] w) : Wp (Cw d) cd_M_ways (1, 0, n1) Q 6 [mR 144, mI x1, mI x2, mI x3, none, none] [mI s0] w :=
  Wp.s ⟨fun q => Wp.fgd (leA.f (leA.f (leA.f (leA.f (leA.f (leA.f leA.e)))))) (h1 q), fun q => h2 q⟩
theorem M_ways_144_b7 {d : Nat} {n1 : Int} {Q : MV → Wd → Prop} {x1 x2 x3 : Int} {w : Wd} (h : Cw d 204 [mR 144, mI x2] w (fun r w' => Wp (Cw d) cd_M_ways (1, 0, n1) Q 10 [mR 144, mI x1, mI x2, mI x3, none, none] [r] w')) : Wp (Cw d) cd_M_ways (1, 0, n1) Q 7 [mR 144, mI x1, mI x2, mI x3, none, none] [] w :=
  Wp.s (Wp.s (Wp.s h))
theorem M_ways_144_b10 {d : Nat} {n1 : Int} {Q : MV → Wd → Prop} {x1 x2 x3 s0 : Int} {w : Wd} (h1 : s0 = 0 → Wp (Cw d) cd_M_ways (1, 0, n1) Q 16 [none, none, none, none, none, none] [] w) (h2 : ¬ (s0 = 0) → Wp (Cw d) cd_M_ways (1, 0, n1) Q 11 [mR 144, mI x1, mI x2, mI x3, none, none] [] w) : Wp (Cw d) cd_M_ways (1, 0, n1) Q 10 [mR 144, mI x1, mI x2, mI x3, none, none] [mI s0] w :=
  Wp.s ⟨fun q => Wp.fgd (leA.f (leA.f (leA.f (leA.f (leA.f (leA.f leA.e)))))) (h1 q), fun q => h2 q⟩
theorem M_ways_144_b11 {d : Nat} {n1 : Int} {Q : MV → Wd → Prop} {x1 x2 x3 : Int} {w : Wd} (h : Cw d 187 [mI x3, mI 2, mI 6] w (fun r w' => Wp (Cw d) cd_M_ways (1, 0, n1) Q 15 [mR 144, mI x1, mI x2, mI x3, none, none] [r] w')) : Wp (Cw d) cd_M_ways (1, 0, n1) Q 11 [mR 144, mI x1, mI x2, mI x3, none, none] [] w :=
  Wp.s (Wp.s (Wp.s (Wp.s h)))
theorem M_ways_144_b15 {d : Nat} {n1 : Int} {Q : MV → Wd → Prop} {x1 x2 x3 s0 : Int} {w : Wd} (h1 : ¬ s0 = 0 → Wp (Cw d) cd_M_ways (1, 0, n1) Q 18 [mR 144, mI x1, mI x2, mI x3, none, none] [] w) (h2 : ¬ (¬ s0 = 0) → Wp (Cw d) cd_M_ways (1, 0, n1) Q 16 [none, none, none, none, none, none] [] w) : Wp (Cw d) cd_M_ways (1, 0, n1) Q 15 [mR 144, mI x1, mI x2, mI x3, none, none] [mI s0] w :=
  Wp.s ⟨fun q => h1 q, fun q => Wp.fgd (leA.f (leA.f (leA.f (leA.f (leA.f (leA.f leA.e)))))) (h2 q)⟩
theorem M_ways_144_b16 {d : Nat} {n1 : Int} {Q : MV → Wd → Prop} {w : Wd} (h : Q (mI ((-1))) w) : Wp (Cw d) cd_M_ways (1, 0, n1) Q 16 [none, none, none, none, none, none] [] w :=
  Wp.s (Wp.s h)
theorem M_ways_144_b18 {d : Nat} {n1 : Int} {Q : MV → Wd → Prop} {x1 x2 x3 : Int} {w : Wd} (h : Cw d 208 [mR 144] w (fun _ w' => Wp (Cw d) cd_M_ways (1, 0, n1) Q 20 [mR 144, mI x1, mI x2, mI x3, none, none] [] w')) : Wp (Cw d) cd_M_ways (1, 0, n1) Q 18 [mR 144, mI x1, mI x2, mI x3, none, none] [] w :=
  Wp.s (Wp.s h)
theorem M_ways_144_b20 {d : Nat} {n1 : Int} {Q : MV → Wd → Prop} {x1 x2 x3 : Int} {w : Wd} (g1 : (0 : Int) ≤ w32 ((w32 (109 + (w32 (4 * x2)))) + 1) ∧ w32 ((w32 (109 + (w32 (4 * x2)))) + 1) < 645) (h : Cw d 202 [mR 144, mI x1] w (fun r w' => Wp (Cw d) cd_M_ways (1, 0, n1) Q 33 [mR 144, mI x1, mI x2, mI x3, none, none] [r, mI (w 146 (w32 ((w32 (109 + (w32 (4 * x2)))) + 1)).toNat)] w')) : Wp (Cw d) cd_M_ways (1, 0, n1) Q 20 [mR 144, mI x1, mI x2, mI x3, none, none] [] w :=
  Wp.s (Wp.s (Wp.s (Wp.s (Wp.s (Wp.s (Wp.s (Wp.s (Wp.s (Wp.s ⟨g1, Wp.s (Wp.s (Wp.s h))⟩)))))))))
theorem M_ways_144_b33 {d : Nat} {n1 : Int} {Q : MV → Wd → Prop} {x1 x2 x3 s0 s1 : Int} {w : Wd} (h1 : s1 = s0 → Wp (Cw d) cd_M_ways (1, 0, n1) Q 36 [mR 144, mI x1, mI x2, mI x3, none, none] [] w) (h2 : ¬ (s1 = s0) → Wp (Cw d) cd_M_ways (1, 0, n1) Q 34 [none, none, none, none, none, none] [] w) : Wp (Cw d) cd_M_ways (1, 0, n1) Q 33 [mR 144, mI x1, mI x2, mI x3, none, none] [mI s0, mI s1] w :=
  Wp.s ⟨fun q => h1 q, fun q => Wp.fgd (leA.f (leA.f (leA.f (leA.f (leA.f (leA.f leA.e)))))) (h2 q)⟩
theorem M_ways_144_b34 {d : Nat} {n1 : Int} {Q : MV → Wd → Prop} {w : Wd} (h : Q (mI 0) w) : Wp (Cw d) cd_M_ways (1, 0, n1) Q 34 [none, none, none, none, none, none] [] w :=
  Wp.s (Wp.s h)
theorem M_ways_144_b36 {d : Nat} {n1 : Int} {Q : MV → Wd → Prop} {x1 x2 x3 : Int} {w : Wd} (h : Cw d 219 [mR 144, mI x1, mI x2] w (fun r w' => Wp (Cw d) cd_M_ways (1, 0, n1) Q 42 [mR 144, mI x1, mI x2, mI x3, mI 0, none] [r] w')) : Wp (Cw d) cd_M_ways (1, 0, n1) Q 36 [mR 144, mI x1, mI x2, mI x3, none, none] [] w :=
  Wp.s (Wp.s (Wp.s (Wp.s (Wp.s (Wp.s h)))))
theorem M_ways_144_b42 {d : Nat} {n1 : Int} {Q : MV → Wd → Prop} {x1 x2 x3 x4 s0 : Int} {w : Wd} (g1 : (0 : Int) ≤ w32 ((w32 (29 + (w32 (5 * x1)))) + 4) ∧ w32 ((w32 (29 + (w32 (5 * x1)))) + 4) < 645) (h : Cw d 213 [mR 144, mI x3] w (fun _ w' => Wp (Cw d) cd_M_ways (1, 0, n1) Q 57 [mR 144, mI x1, mI x2, mI x3, mI x4, mI (w32 (s0 - (w 146 (w32 ((w32 (29 + (w32 (5 * x1)))) + 4)).toNat)))] [] w')) : Wp (Cw d) cd_M_ways (1, 0, n1) Q 42 [mR 144, mI x1, mI x2, mI x3, mI x4, none] [mI s0] w :=
  Wp.s (Wp.s (Wp.s (Wp.s (Wp.s (Wp.s (Wp.s (Wp.s (Wp.s (Wp.s ⟨g1, Wp.s (Wp.s (Wp.s (Wp.s (Wp.s h))))⟩)))))))))
theorem M_ways_144_b57 {d : Nat} {n1 : Int} {Q : MV → Wd → Prop} {x1 x2 x3 x4 x5 : Int} {w : Wd} (h1 : 0 ≤ x5 → Wp (Cw d) cd_M_ways (1, 0, n1) Q 61 [mR 144, mI x1, mI x2, mI x3, mI x4, mI x5] [] w) (h2 : ¬ (0 ≤ x5) → Wp (Cw d) cd_M_ways (1, 0, n1) Q 59 [none, none, none, none, none, none] [] w) : Wp (Cw d) cd_M_ways (1, 0, n1) Q 57 [mR 144, mI x1, mI x2, mI x3, mI x4, mI x5] [] w :=
  Wp.s (Wp.s ⟨fun q => h1 q, fun q => Wp.fgd (leA.f (leA.f (leA.f (leA.f (leA.f (leA.f leA.e)))))) (h2 q)⟩)
theorem M_ways_144_b59 {d : Nat} {n1 : Int} {Q : MV → Wd → Prop} {w : Wd} (h : Q (mI 0) w) : Wp (Cw d) cd_M_ways (1, 0, n1) Q 59 [none, none, none, none, none, none] [] w :=
  Wp.s (Wp.s h)
theorem M_ways_144_b61 {d : Nat} {n1 : Int} {Q : MV → Wd → Prop} {x1 x2 x3 x4 x5 : Int} {w : Wd} (h : Cw d 214 [mR 144, mI x1, mI x5] w (fun r w' => Wp (Cw d) cd_M_ways (1, 0, n1) Q 65 [mR 144, mI x1, mI x2, mI x3, mI x4, mI x5] [r] w')) : Wp (Cw d) cd_M_ways (1, 0, n1) Q 61 [mR 144, mI x1, mI x2, mI x3, mI x4, mI x5] [] w :=
  Wp.s (Wp.s (Wp.s (Wp.s h)))
theorem M_ways_144_b65 {d : Nat} {n1 : Int} {Q : MV → Wd → Prop} {x1 x2 x3 x4 x5 s0 : Int} {w : Wd} (h1 : s0 = 0 → Wp (Cw d) cd_M_ways (1, 0, n1) Q 88 [none, none, none, none, mI x4, none] [] w) (h2 : ¬ (s0 = 0) → Wp (Cw d) cd_M_ways (1, 0, n1) Q 66 [mR 144, mI x1, mI x2, mI x3, mI x4, mI x5] [] w) : Wp (Cw d) cd_M_ways (1, 0, n1) Q 65 [mR 144, mI x1, mI x2, mI x3, mI x4, mI x5] [mI s0] w :=
  Wp.s ⟨fun q => Wp.fgd (leA.f (leA.f (leA.f (leA.f (leA.k (leA.f leA.e)))))) (h1 q), fun q => h2 q⟩
theorem M_ways_144_b66 {d : Nat} {n1 : Int} {Q : MV → Wd → Prop} {x1 x2 x3 x4 x5 : Int} {w : Wd} (g1 : (0 : Int) ≤ w32 (x3 - 1) ∧ w32 (x3 - 1) < 6) (g2 : (0 : Int) ≤ w32 (109 + (w32 (4 * x2))) ∧ w32 (109 + (w32 (4 * x2))) < 645) (h1 : ¬ w 155 (w32 (x3 - 1)).toNat = w 146 (w32 (109 + (w32 (4 * x2)))).toNat → Wp (Cw d) cd_M_ways (1, 0, n1) Q 84 [mR 144, mI x1, mI x2, mI x3, none, mI x5] [mI x4] w) (h2 : ¬ (¬ w 155 (w32 (x3 - 1)).toNat = w 146 (w32 (109 + (w32 (4 * x2)))).toNat) → Wp (Cw d) cd_M_ways (1, 0, n1) Q 82 [mR 144, mI x1, mI x2, mI x3, none, mI x5] [mI x4] w) : Wp (Cw d) cd_M_ways (1, 0, n1) Q 66 [mR 144, mI x1, mI x2, mI x3, mI x4, mI x5] [] w :=
  Wp.s (Wp.s (Wp.s (Wp.s (Wp.s (Wp.s (Wp.s ⟨g1, Wp.s (Wp.s (Wp.s (Wp.s (Wp.s (Wp.s (Wp.s (Wp.s ⟨g2, Wp.s ⟨fun q => Wp.fgd (leA.k (leA.k (leA.k (leA.k (leA.f (leA.k leA.e)))))) (h1 q), fun q => Wp.fgd (leA.k (leA.k (leA.k (leA.k (leA.f (leA.k leA.e)))))) (h2 q)⟩⟩)))))))⟩))))))
theorem M_ways_144_b82 {d : Nat} {n1 : Int} {Q : MV → Wd → Prop} {x1 x2 x3 x5 s0 : Int} {w : Wd} (h : Wp (Cw d) cd_M_ways (1, 0, n1) Q 85 [mR 144, mI x1, mI x2, mI x3, none, mI x5] [mI 1, mI s0] w) : Wp (Cw d) cd_M_ways (1, 0, n1) Q 82 [mR 144, mI x1, mI x2, mI x3, none, mI x5] [mI s0] w :=
  Wp.s (Wp.s h)
theorem M_ways_144_b84 {d : Nat} {n1 : Int} {Q : MV → Wd → Prop} {x1 x2 x3 x5 s0 : Int} {w : Wd} (h : Wp (Cw d) cd_M_ways (1, 0, n1) Q 85 [mR 144, mI x1, mI x2, mI x3, none, mI x5] [mI 0, mI s0] w) : Wp (Cw d) cd_M_ways (1, 0, n1) Q 84 [mR 144, mI x1, mI x2, mI x3, none, mI x5] [mI s0] w :=
  Wp.s h
theorem M_ways_144_b85 {d : Nat} {n1 : Int} {Q : MV → Wd → Prop} {x1 x2 x3 x5 s0 s1 : Int} {w : Wd} (h : Wp (Cw d) cd_M_ways (1, 0, n1) Q 61 [mR 144, mI x1, mI x2, mI x3, mI (w32 (s1 + s0)), mI x5] [] w) : Wp (Cw d) cd_M_ways (1, 0, n1) Q 85 [mR 144, mI x1, mI x2, mI x3, none, mI x5] [mI s0, mI s1] w :=
  Wp.s (Wp.s (Wp.s h))
theorem M_ways_144_b88 {d : Nat} {n1 : Int} {Q : MV → Wd → Prop} {x4 : Int} {w : Wd} (h : Q (mI x4) w) : Wp (Cw d) cd_M_ways (1, 0, n1) Q 88 [none, none, none, none, mI x4, none] [] w :=
  Wp.s (Wp.s h)
theorem X_latest_0_b0 {d : Nat} {n1 : Int} {Q : MV → Wd → Prop} {x1 x2 : Int} {w : Wd} (h : Cw d 53 [mR 4, mI x1] w (fun r w' => Wp (Cw d) cd_X_latest (1, 0, n1) Q 4 [mR 0, mI x1, mI x2, none] [r] w')) : Wp (Cw d) cd_X_latest (1, 0, n1) Q 0 [mR 0, mI x1, mI x2, none] [] w :=
  Wp.s (Wp.s (Wp.s (Wp.s h)))
theorem X_latest_0_b4 {d : Nat} {n1 : Int} {Q : MV → Wd → Prop} {x1 x2 s0 : Int} {w : Wd} (h1 : s0 = 0 → Wp (Cw d) cd_X_latest (1, 0, n1) Q 10 [none, none, none, none] [] w) (h2 : ¬ (s0 = 0) → Wp (Cw d) cd_X_latest (1, 0, n1) Q 5 [mR 0, mI x1, mI x2, none] [] w) : Wp (Cw d) cd_X_latest (1, 0, n1) Q 4 [mR 0, mI x1, mI x2, none] [mI s0] w :=
  Wp.s ⟨fun q => Wp.fgd (leA.f (leA.f (leA.f (leA.f leA.e)))) (h1 q), fun q => h2 q⟩
theorem X_latest_0_b5 {d : Nat} {n1 : Int} {Q : MV → Wd → Prop} {x1 x2 : Int} {w : Wd} (h : Cw d 54 [mR 4, mI x2] w (fun r w' => Wp (Cw d) cd_X_latest (1, 0, n1) Q 9 [mR 0, mI x1, mI x2, none] [r] w')) : Wp (Cw d) cd_X_latest (1, 0, n1) Q 5 [mR 0, mI x1, mI x2, none] [] w :=
  Wp.s (Wp.s (Wp.s (Wp.s h)))
theorem X_latest_0_b9 {d : Nat} {n1 : Int} {Q : MV → Wd → Prop} {x1 x2 s0 : Int} {w : Wd} (h1 : ¬ s0 = 0 → Wp (Cw d) cd_X_latest (1, 0, n1) Q 12 [mR 0, mI x1, mI x2, none] [] w) (h2 : ¬ (¬ s0 = 0) → Wp (Cw d) cd_X_latest (1, 0, n1) Q 10 [none, none, none, none] [] w) : Wp (Cw d) cd_X_latest (1, 0, n1) Q 9 [mR 0, mI x1, mI x2, none] [mI s0] w :=
  Wp.s ⟨fun q => h1 q, fun q => Wp.fgd (leA.f (leA.f (leA.f (leA.f leA.e)))) (h2 q)⟩
theorem X_latest_0_b10 {d : Nat} {n1 : Int} {Q : MV → Wd → Prop} {w : Wd} (h : Q (mI ((-1))) w) : Wp (Cw d) cd_X_latest (1, 0, n1) Q 10 [none, none, none, none] [] w :=
  Wp.s (Wp.s h)
theorem X_latest_0_b12 {d : Nat} {n1 : Int} {Q : MV → Wd → Prop} {x1 x2 : Int} {w : Wd} (h : Cw d 117 [mR 0] w (fun r w' => Wp (Cw d) cd_X_latest (1, 0, n1) Q 14 [mR 0, mI x1, mI x2, none] [r] w')) : Wp (Cw d) cd_X_latest (1, 0, n1) Q 12 [mR 0, mI x1, mI x2, none] [] w :=
  Wp.s (Wp.s h)
theorem X_latest_0_b14 {d : Nat} {n1 : Int} {Q : MV → Wd → Prop} {x1 x2 : Int} {w : Wd} (h : Cw d 59 [mR 113, mI x1] w (fun _ w' => Wp (Cw d) cd_X_latest (1, 0, n1) Q 19 [mR 0, mI x1, mI x2, mR 113] [] w')) : Wp (Cw d) cd_X_latest (1, 0, n1) Q 14 [mR 0, mI x1, mI x2, none] [mR 112] w :=
  Wp.s (Wp.s (Wp.s (Wp.s (Wp.s h))))
theorem X_latest_0_b19 {d : Nat} {n1 : Int} {Q : MV → Wd → Prop} {x1 x2 : Int} {w : Wd} (g1 : (0 : Int) ≤ x2 ∧ x2 < 8) (h1 : ¬ w 120 x2.toNat = 0 → Wp (Cw d) cd_X_latest (1, 0, n1) Q 26 [mR 0, mI x1, mI x2, mR 113] [] w) (h2 : ¬ (¬ w 120 x2.toNat = 0) → Wp (Cw d) cd_X_latest (1, 0, n1) Q 24 [none, none, none, none] [] w) : Wp (Cw d) cd_X_latest (1, 0, n1) Q 19 [mR 0, mI x1, mI x2, mR 113] [] w :=
  Wp.s (Wp.s (Wp.s (Wp.s ⟨g1, Wp.s ⟨fun q => h1 q, fun q => Wp.fgd (leA.f (leA.f (leA.f (leA.f leA.e)))) (h2 q)⟩⟩)))
theorem X_latest_0_b24 {d : Nat} {n1 : Int} {Q : MV → Wd → Prop} {w : Wd} (h : Q (mI ((-1))) w) : Wp (Cw d) cd_X_latest (1, 0, n1) Q 24 [none, none, none, none] [] w :=
  Wp.s (Wp.s h)
theorem X_latest_0_b26 {d : Nat} {n1 : Int} {Q : MV → Wd → Prop} {x1 x2 : Int} {w : Wd} (h : Cw d 61 [mR 4, mI x1, mI 3] w (fun r w' => Wp (Cw d) cd_X_latest (1, 0, n1) Q 31 [none, none, mI x2, mR 113] [r] w')) : Wp (Cw d) cd_X_latest (1, 0, n1) Q 26 [mR 0, mI x1, mI x2, mR 113] [] w :=
  Wp.s (Wp.s (Wp.s (Wp.s (Wp.s (Cw_mono _ _ _ _ _ _ (fun r w' q => Wp.fgd (leA.f (leA.f (leA.k (leA.k leA.e)))) q) h)))))
theorem X_latest_0_b31 {d : Nat} {n1 : Int} {Q : MV → Wd → Prop} {x2 s0 : Int} {w : Wd} (g1 : (0 : Int) ≤ x2 ∧ x2 < 8) (g2 : (0 : Int) ≤ x2 ∧ x2 < 8) (h : Q (mI (w32 ((w32 (s0 + (w 119 x2.toNat))) - (w 121 x2.toNat)))) w) : Wp (Cw d) cd_X_latest (1, 0, n1) Q 31 [none, none, mI x2, mR 113] [mI s0] w :=
  Wp.s (Wp.s (Wp.s (Wp.s ⟨g1, Wp.s (Wp.s (Wp.s (Wp.s (Wp.s ⟨g2, Wp.s (Wp.s h)⟩))))⟩)))
theorem M_latest_144_b0 {d : Nat} {n1 : Int} {Q : MV → Wd → Prop} {x1 x2 : Int} {w : Wd} (h : Cw d 199 [mR 144, mI x1] (ub w 144 0 0) (fun r w' => Wp (Cw d) cd_M_latest (1, 0, n1) Q 6 [mR 144, mI x1, mI x2, none, none] [r] w')) : Wp (Cw d) cd_M_latest (1, 0, n1) Q 0 [mR 144, mI x1, mI x2, none, none] [] w :=
  Wp.s (Wp.s (Wp.s (Wp.s (Wp.s (Wp.s h)))))
theorem M_latest_144_b6 {d : Nat} {n1 : Int} {Q : MV → Wd → Prop} {x1 x2 s0 : Int} {w : Wd} (h1 : s0 = 0 → Wp (Cw d) cd_M_latest (1, 0, n1) Q 25 [none, none, none, none, none] [] w) (h2 : ¬ (s0 = 0) → Wp (Cw d) cd_M_latest (1, 0, n1) Q 7 [mR 144, mI x1, mI x2, none, none] [] w) : Wp (Cw d) cd_M_latest (1, 0, n1) Q 6 [mR 144, mI x1, mI x2, none, none] [mI s0] w :=
  Wp.s ⟨fun q => Wp.fgd (leA.f (leA.f (leA.f (leA.f (leA.f leA.e))))) (h1 q), fun q => h2 q⟩
theorem M_latest_144_b7 {d : Nat} {n1 : Int} {Q : MV → Wd → Prop} {x1 x2 : Int} {w : Wd} (h : Cw d 204 [mR 144, mI x2] w (fun r w' => Wp (Cw d) cd_M_latest (1, 0, n1) Q 10 [mR 144, mI x1, mI x2, none, none] [r] w')) : Wp (Cw d) cd_M_latest (1, 0, n1) Q 7 [mR 144, mI x1, mI x2, none, none] [] w :=
  Wp.s (Wp.s (Wp.s h))
theorem M_latest_144_b10 {d : Nat} {n1 : Int} {Q : MV → Wd → Prop} {x1 x2 s0 : Int} {w : Wd} (h1 : s0 = 0 → Wp (Cw d) cd_M_latest (1, 0, n1) Q 25 [none, none, none, none, none] [] w) (h2 : ¬ (s0 = 0) → Wp (Cw d) cd_M_latest (1, 0, n1) Q 11 [mR 144, mI x1, mI x2, none, none] [] w) : Wp (Cw d) cd_M_latest (1, 0, n1) Q 10 [mR 144, mI x1, mI x2, none, none] [mI s0] w :=
  Wp.s ⟨fun q => Wp.fgd (leA.f (leA.f (leA.f (leA.f (leA.f leA.e))))) (h1 q), fun q => h2 q⟩
theorem M_latest_144_b11 {d : Nat} {n1 : Int} {Q : MV → Wd → Prop} {x1 x2 : Int} {w : Wd} (g1 : (0 : Int) ≤ w32 ((w32 (109 + (w32 (4 * x2)))) + 1) ∧ w32 ((w32 (109 + (w32 (4 * x2)))) + 1) < 645) (h : Cw d 202 [mR 144, mI x1] w (fun r w' => Wp (Cw d) cd_M_latest (1, 0, n1) Q 24 [mR 144, mI x1, mI x2, none, none] [r, mI (w 146 (w32 ((w32 (109 + (w32 (4 * x2)))) + 1)).toNat)] w')) : Wp (Cw d) cd_M_latest (1, 0, n1) Q 11 [mR 144, mI x1, mI x2, none, none] [] w :=
  Wp.s (Wp.s (Wp.s (Wp.s (Wp.s (Wp.s (Wp.s (Wp.s (Wp.s (Wp.s ⟨g1, Wp.s (Wp.s (Wp.s h))⟩)))))))))
theorem M_latest_144_b24 {d : Nat} {n1 : Int} {Q : MV → Wd → Prop} {x1 x2 s0 s1 : Int} {w : Wd} (h1 : s1 = s0 → Wp (Cw d) cd_M_latest (1, 0, n1) Q 27 [mR 144, mI x1, mI x2, none, none] [] w) (h2 : ¬ (s1 = s0) → Wp (Cw d) cd_M_latest (1, 0, n1) Q 25 [none, none, none, none, none] [] w) : Wp (Cw d) cd_M_latest (1, 0, n1) Q 24 [mR 144, mI x1, mI x2, none, none] [mI s0, mI s1] w :=
  Wp.s ⟨fun q => h1 q, fun q => Wp.fgd (leA.f (leA.f (leA.f (leA.f (leA.f leA.e))))) (h2 q)⟩
theorem M_latest_144_b25 {d : Nat} {n1 : Int} {Q : MV → Wd → Prop} {w : Wd} (h : Q (mI ((-1))) w) : Wp (Cw d) cd_M_latest (1, 0, n1) Q 25 [none, none, none, none, none] [] w :=
  Wp.s (Wp.s h)
theorem M_latest_144_b27 {d : Nat} {n1 : Int} {Q : MV → Wd → Prop} {x1 x2 : Int} {w : Wd} (h : Cw d 208 [mR 144] w (fun _ w' => Wp (Cw d) cd_M_latest (1, 0, n1) Q 29 [mR 144, mI x1, mI x2, none, none] [] w')) : Wp (Cw d) cd_M_latest (1, 0, n1) Q 27 [mR 144, mI x1, mI x2, none, none] [] w :=
  Wp.s (Wp.s h)
theorem M_latest_144_b29 {d : Nat} {n1 : Int} {Q : MV → Wd → Prop} {x1 x2 : Int} {w : Wd} (h : Cw d 219 [mR 144, mI x1, mI x2] w (fun r w' => Wp (Cw d) cd_M_latest (1, 0, n1) Q 33 [mR 144, mI x1, mI x2, none, none] [r] w')) : Wp (Cw d) cd_M_latest (1, 0, n1) Q 29 [mR 144, mI x1, mI x2, none, none] [] w :=
  Wp.s (Wp.s (Wp.s (Wp.s h)))
theorem M_latest_144_b33 {d : Nat} {n1 : Int} {Q : MV → Wd → Prop} {x1 x2 s0 : Int} {w : Wd} (g1 : (0 : Int) ≤ w32 ((w32 (29 + (w32 (5 * x1)))) + 4) ∧ w32 ((w32 (29 + (w32 (5 * x1)))) + 4) < 645) (h : Cw d 213 [mR 144, mI (w 144 25)] w (fun _ w' => Wp (Cw d) cd_M_latest (1, 0, n1) Q 51 [mR 144, mI x1, mI x2, mI (w32 (s0 - (w 146 (w32 ((w32 (29 + (w32 (5 * x1)))) + 4)).toNat))), mI 0] [] w')) : Wp (Cw d) cd_M_latest (1, 0, n1) Q 33 [mR 144, mI x1, mI x2, none, none] [mI s0] w :=
  Wp.s (Wp.s (Wp.s (Wp.s (Wp.s (Wp.s (Wp.s (Wp.s (Wp.s (Wp.s ⟨g1, Wp.s (Wp.s (Wp.s (Wp.s (Wp.s (Wp.s (Wp.s (Wp.s h)))))))⟩)))))))))
theorem M_latest_144_b51 {d : Nat} {n1 : Int} {Q : MV → Wd → Prop} {x1 x2 x3 x4 : Int} {w : Wd} (h1 : 0 ≤ x3 → Wp (Cw d) cd_M_latest (1, 0, n1) Q 55 [mR 144, mI x1, mI x2, mI x3, mI x4] [] w) (h2 : ¬ (0 ≤ x3) → Wp (Cw d) cd_M_latest (1, 0, n1) Q 53 [none, none, none, none, none] [] w) : Wp (Cw d) cd_M_latest (1, 0, n1) Q 51 [mR 144, mI x1, mI x2, mI x3, mI x4] [] w :=
  Wp.s (Wp.s ⟨fun q => h1 q, fun q => Wp.fgd (leA.f (leA.f (leA.f (leA.f (leA.f leA.e))))) (h2 q)⟩)
theorem M_latest_144_b53 {d : Nat} {n1 : Int} {Q : MV → Wd → Prop} {w : Wd} (h : Q (mI ((-1))) w) : Wp (Cw d) cd_M_latest (1, 0, n1) Q 53 [none, none, none, none, none] [] w :=
  Wp.s (Wp.s h)
theorem M_latest_144_b55 {d : Nat} {n1 : Int} {Q : MV → Wd → Prop} {x1 x2 x3 x4 : Int} {w : Wd} (h : Cw d 214 [mR 144, mI x1, mI x3] w (fun r w' => Wp (Cw d) cd_M_latest (1, 0, n1) Q 59 [mR 144, mI x1, mI x2, mI x3, mI x4] [r] w')) : Wp (Cw d) cd_M_latest (1, 0, n1) Q 55 [mR 144, mI x1, mI x2, mI x3, mI x4] [] w :=
  Wp.s (Wp.s (Wp.s (Wp.s h)))
theorem M_latest_144_b59 {d : Nat} {n1 : Int} {Q : MV → Wd → Prop} {x1 x2 x3 x4 s0 : Int} {w : Wd} (h1 : s0 = 0 → Wp (Cw d) cd_M_latest (1, 0, n1) Q 88 [mR 144, mI x1, mI x2, mI x3, mI x4] [] w) (h2 : ¬ (s0 = 0) → Wp (Cw d) cd_M_latest (1, 0, n1) Q 60 [mR 144, mI x1, mI x2, mI x3, mI x4] [] w) : Wp (Cw d) cd_M_latest (1, 0, n1) Q 59 [mR 144, mI x1, mI x2, mI x3, mI x4] [mI s0] w :=
  Wp.s ⟨fun q => h1 q, fun q => h2 q⟩
theorem M_latest_144_b60 {d : Nat} {n1 : Int} {Q : MV → Wd → Prop} {x1 x2 x3 x4 : Int} {w : Wd} (g1 : (0 : Int) ≤ w32 ((w 144 25) - 1) ∧ w32 ((w 144 25) - 1) < 6) (g2 : (0 : Int) ≤ w32 (109 + (w32 (4 * x2))) ∧ w32 (109 + (w32 (4 * x2))) < 645) (h1 : w 155 (w32 ((w 144 25) - 1)).toNat = w 146 (w32 (109 + (w32 (4 * x2)))).toNat → Wp (Cw d) cd_M_latest (1, 0, n1) Q 77 [mR 144, mI x1, mI x2, none, none] [] w) (h2 : ¬ (w 155 (w32 ((w 144 25) - 1)).toNat = w 146 (w32 (109 + (w32 (4 * x2)))).toNat) → Wp (Cw d) cd_M_latest (1, 0, n1) Q 76 [mR 144, mI x1, mI x2, mI x3, mI x4] [] w) : Wp (Cw d) cd_M_latest (1, 0, n1) Q 60 [mR 144, mI x1, mI x2, mI x3, mI x4] [] w :=
  Wp.s (Wp.s (Wp.s (Wp.s (Wp.s (Wp.s (Wp.s ⟨g1, Wp.s (Wp.s (Wp.s (Wp.s (Wp.s (Wp.s (Wp.s (Wp.s ⟨g2, Wp.s ⟨fun q => Wp.fgd (leA.k (leA.k (leA.k (leA.f (leA.f leA.e))))) (h1 q), fun q => h2 q⟩⟩)))))))⟩))))))
theorem M_latest_144_b76 {d : Nat} {n1 : Int} {Q : MV → Wd → Prop} {x1 x2 x3 x4 : Int} {w : Wd} (h : Wp (Cw d) cd_M_latest (1, 0, n1) Q 55 [mR 144, mI x1, mI x2, mI x3, mI x4] [] w) : Wp (Cw d) cd_M_latest (1, 0, n1) Q 76 [mR 144, mI x1, mI x2, mI x3, mI x4] [] w :=
  Wp.s h
theorem M_latest_144_b77 {d : Nat} {n1 : Int} {Q : MV → Wd → Prop} {x1 x2 : Int} {w : Wd} (g1 : (0 : Int) ≤ w32 ((w 144 25) - 1) ∧ w32 ((w 144 25) - 1) < 6) (h : Wp (Cw d) cd_M_latest (1, 0, n1) Q 55 [mR 144, mI x1, mI x2, mI (w 157 (w32 ((w 144 25) - 1)).toNat), mI 1] [] w) : Wp (Cw d) cd_M_latest (1, 0, n1) Q 77 [mR 144, mI x1, mI x2, none, none] [] w :=
  Wp.s (Wp.s (Wp.s (Wp.s (Wp.s (Wp.s (Wp.s (Wp.s (Wp.s ⟨g1, Wp.s (Wp.s h)⟩))))))))
theorem M_latest_144_b88 {d : Nat} {n1 : Int} {Q : MV → Wd → Prop} {x1 x2 x3 x4 : Int} {w : Wd} (h1 : x4 = 0 → Wp (Cw d) cd_M_latest (1, 0, n1) Q 97 [none, none, none, none, none] [] w) (h2 : ¬ (x4 = 0) → Wp (Cw d) cd_M_latest (1, 0, n1) Q 90 [mR 144, mI x1, mI x2, mI x3, none] [] w) : Wp (Cw d) cd_M_latest (1, 0, n1) Q 88 [mR 144, mI x1, mI x2, mI x3, mI x4] [] w :=
  Wp.s (Wp.s ⟨fun q => Wp.fgd (leA.f (leA.f (leA.f (leA.f (leA.f leA.e))))) (h1 q), fun q => Wp.fgd (leA.k (leA.k (leA.k (leA.k (leA.f leA.e))))) (h2 q)⟩)
theorem M_latest_144_b90 {d : Nat} {n1 : Int} {Q : MV → Wd → Prop} {x1 x2 x3 : Int} {w : Wd} (h : Cw d 219 [mR 144, mI x1, mI x2] w (fun r w' => Wp (Cw d) cd_M_latest (1, 0, n1) Q 94 [none, none, none, mI x3, none] [r] w')) : Wp (Cw d) cd_M_latest (1, 0, n1) Q 90 [mR 144, mI x1, mI x2, mI x3, none] [] w :=
  Wp.s (Wp.s (Wp.s (Wp.s (Cw_mono _ _ _ _ _ _ (fun r w' q => Wp.fgd (leA.f (leA.f (leA.f (leA.k (leA.f leA.e))))) q) h))))
theorem M_latest_144_b94 {d : Nat} {n1 : Int} {Q : MV → Wd → Prop} {x3 s0 : Int} {w : Wd} (h : Wp (Cw d) cd_M_latest (1, 0, n1) Q 98 [none, none, none, none, none] [mI (w32 (s0 - x3))] w) : Wp (Cw d) cd_M_latest (1, 0, n1) Q 94 [none, none, none, mI x3, none] [mI s0] w :=
  Wp.s (Wp.s (Wp.s (Wp.fgd (leA.f (leA.f (leA.f (leA.f (leA.f leA.e))))) h)))
theorem M_latest_144_b97 {d : Nat} {n1 : Int} {Q : MV → Wd → Prop} {w : Wd} (h : Wp (Cw d) cd_M_latest (1, 0, n1) Q 98 [none, none, none, none, none] [mI ((-1))] w) : Wp (Cw d) cd_M_latest (1, 0, n1) Q 97 [none, none, none, none, none] [] w :=
  Wp.s h
theorem M_latest_144_b98 {d : Nat} {n1 : Int} {Q : MV → Wd → Prop} {s0 : Int} {w : Wd} (h : Q (mI s0) w) : Wp (Cw d) cd_M_latest (1, 0, n1) Q 98 [none, none, none, none, none] [mI s0] w :=
  Wp.s h
theorem X_rest_0_b0 {d : Nat} {n1 : Int} {Q : MV → Wd → Prop} {w : Wd} (h : Cw d 117 [mR 0] w (fun r w' => Wp (Cw d) cd_X_rest (1, 0, n1) Q 2 [mR 0, none, none, none] [r] w')) : Wp (Cw d) cd_X_rest (1, 0, n1) Q 0 [mR 0, none, none, none] [] w :=
  Wp.s (Wp.s h)
theorem X_rest_0_b2 {d : Nat} {n1 : Int} {Q : MV → Wd → Prop} {w : Wd} (h : Wp (Cw d) cd_X_rest (1, 0, n1) Q 7 [mR 0, mR 112, mI ((-1)), mI 1] [] w) : Wp (Cw d) cd_X_rest (1, 0, n1) Q 2 [mR 0, none, none, none] [mR 112] w :=
  Wp.s (Wp.s (Wp.s (Wp.s (Wp.s h))))
theorem X_rest_0_b7 {d : Nat} {n1 : Int} {Q : MV → Wd → Prop} {x2 x3 : Int} {w : Wd} (h1 : 6 < x3 → Wp (Cw d) cd_X_rest (1, 0, n1) Q 21 [mR 0, mR 112, mI x2, none] [] w) (h2 : ¬ (6 < x3) → Wp (Cw d) cd_X_rest (1, 0, n1) Q 10 [mR 0, mR 112, mI x2, mI x3] [] w) : Wp (Cw d) cd_X_rest (1, 0, n1) Q 7 [mR 0, mR 112, mI x2, mI x3] [] w :=
  Wp.s (Wp.s (Wp.s ⟨fun q => Wp.fgd (leA.k (leA.k (leA.k (leA.f leA.e)))) (h1 q), fun q => h2 q⟩))
theorem X_rest_0_b10 {d : Nat} {n1 : Int} {Q : MV → Wd → Prop} {x2 x3 : Int} {w : Wd} (h1 : ¬ x2 = (-1) → Wp (Cw d) cd_X_rest (1, 0, n1) Q 21 [mR 0, mR 112, mI x2, none] [] w) (h2 : ¬ (¬ x2 = (-1)) → Wp (Cw d) cd_X_rest (1, 0, n1) Q 13 [mR 0, mR 112, mI x2, mI x3] [] w) : Wp (Cw d) cd_X_rest (1, 0, n1) Q 10 [mR 0, mR 112, mI x2, mI x3] [] w :=
  Wp.s (Wp.s (Wp.s ⟨fun q => Wp.fgd (leA.k (leA.k (leA.k (leA.f leA.e)))) (h1 q), fun q => h2 q⟩))
theorem X_rest_0_b13 {d : Nat} {n1 : Int} {Q : MV → Wd → Prop} {x2 x3 : Int} {w : Wd} (h : Cw d 120 [mR 0, mR 112] w (fun r w' => Wp (Cw d) cd_X_rest (1, 0, n1) Q 16 [mR 0, mR 112, mI x2, mI x3] [r] w')) : Wp (Cw d) cd_X_rest (1, 0, n1) Q 13 [mR 0, mR 112, mI x2, mI x3] [] w :=
  Wp.s (Wp.s (Wp.s h))
theorem X_rest_0_b16 {d : Nat} {n1 : Int} {Q : MV → Wd → Prop} {x2 x3 s0 : Int} {w : Wd} (h1 : ¬ s0 = 0 → Wp (Cw d) cd_X_rest (1, 0, n1) Q 19 [mR 0, mR 112, mI x2, mI x3] [] w) (h2 : ¬ (¬ s0 = 0) → Wp (Cw d) cd_X_rest (1, 0, n1) Q 17 [mR 0, mR 112, none, mI x3] [] w) : Wp (Cw d) cd_X_rest (1, 0, n1) Q 16 [mR 0, mR 112, mI x2, mI x3] [mI s0] w :=
  Wp.s ⟨fun q => h1 q, fun q => Wp.fgd (leA.k (leA.k (leA.f (leA.k leA.e)))) (h2 q)⟩
theorem X_rest_0_b17 {d : Nat} {n1 : Int} {Q : MV → Wd → Prop} {x3 : Int} {w : Wd} (h : Wp (Cw d) cd_X_rest (1, 0, n1) Q 19 [mR 0, mR 112, mI x3, mI x3] [] w) : Wp (Cw d) cd_X_rest (1, 0, n1) Q 17 [mR 0, mR 112, none, mI x3] [] w :=
  Wp.s (Wp.s h)
theorem X_rest_0_b19 {d : Nat} {n1 : Int} {Q : MV → Wd → Prop} {x2 x3 : Int} {w : Wd} (h : Wp (Cw d) cd_X_rest (1, 0, n1) Q 7 [mR 0, mR 112, mI x2, mI (w32 (x3 + 1))] [] w) : Wp (Cw d) cd_X_rest (1, 0, n1) Q 19 [mR 0, mR 112, mI x2, mI x3] [] w :=
  Wp.s (Wp.s h)
theorem X_rest_0_b21 {d : Nat} {n1 : Int} {Q : MV → Wd → Prop} {x2 : Int} {w : Wd} (h : Cw d 124 [mR 140, mR 115, mI (w 4 0)] w (fun _ w' => Wp (Cw d) cd_X_rest (1, 0, n1) Q 31 [none, none, mI x2, none] [] w')) : Wp (Cw d) cd_X_rest (1, 0, n1) Q 21 [mR 0, mR 112, mI x2, none] [] w :=
  Wp.s (Wp.s (Wp.s (Wp.s (Wp.s (Wp.s (Wp.s (Wp.s (Wp.s (Wp.s (Cw_mono _ _ _ _ _ _ (fun r w' q => Wp.fgd (leA.f (leA.f (leA.k (leA.f leA.e)))) q) h))))))))))
theorem X_rest_0_b31 {d : Nat} {n1 : Int} {Q : MV → Wd → Prop} {x2 : Int} {w : Wd} (h : Q (mI x2) w) : Wp (Cw d) cd_X_rest (1, 0, n1) Q 31 [none, none, mI x2, none] [] w :=
  Wp.s (Wp.s h)
theorem M_rest_144_b0 {d : Nat} {n1 : Int} {Q : MV → Wd → Prop} {w : Wd} (h : Cw d 208 [mR 144] (ub w 144 0 0) (fun _ w' => Wp (Cw d) cd_M_rest (1, 0, n1) Q 5 [mR 144, none, none, none, none, none] [] w')) : Wp (Cw d) cd_M_rest (1, 0, n1) Q 0 [mR 144, none, none, none, none, none] [] w :=
  Wp.s (Wp.s (Wp.s (Wp.s (Wp.s h))))
theorem M_rest_144_b5 {d : Nat} {n1 : Int} {Q : MV → Wd → Prop} {w : Wd} (h : Wp (Cw d) cd_M_rest (1, 0, n1) Q 9 [mR 144, mI ((-1)), mI 1, none, none, none] [] w) : Wp (Cw d) cd_M_rest (1, 0, n1) Q 5 [mR 144, none, none, none, none, none] [] w :=
  Wp.s (Wp.s (Wp.s (Wp.s h)))
theorem M_rest_144_b9 {d : Nat} {n1 : Int} {Q : MV → Wd → Prop} {x1 x2 : Int} {w : Wd} (h1 : 6 < x2 → Wp (Cw d) cd_M_rest (1, 0, n1) Q 61 [mR 144, mI x1, none, none, none, none] [] w) (h2 : ¬ (6 < x2) → Wp (Cw d) cd_M_rest (1, 0, n1) Q 12 [mR 144, mI x1, mI x2, none, none, none] [] w) : Wp (Cw d) cd_M_rest (1, 0, n1) Q 9 [mR 144, mI x1, mI x2, none, none, none] [] w :=
  Wp.s (Wp.s (Wp.s ⟨fun q => Wp.fgd (leA.k (leA.k (leA.f (leA.f (leA.f (leA.f leA.e)))))) (h1 q), fun q => h2 q⟩))
theorem M_rest_144_b12 {d : Nat} {n1 : Int} {Q : MV → Wd → Prop} {x1 x2 : Int} {w : Wd} (h1 : 0 ≤ x1 → Wp (Cw d) cd_M_rest (1, 0, n1) Q 61 [mR 144, mI x1, none, none, none, none] [] w) (h2 : ¬ (0 ≤ x1) → Wp (Cw d) cd_M_rest (1, 0, n1) Q 14 [mR 144, mI x1, mI x2, none, none, none] [] w) : Wp (Cw d) cd_M_rest (1, 0, n1) Q 12 [mR 144, mI x1, mI x2, none, none, none] [] w :=
  Wp.s (Wp.s ⟨fun q => Wp.fgd (leA.k (leA.k (leA.f (leA.f (leA.f (leA.f leA.e)))))) (h1 q), fun q => h2 q⟩)
theorem M_rest_144_b14 {d : Nat} {n1 : Int} {Q : MV → Wd → Prop} {x1 x2 : Int} {w : Wd} (h : Wp (Cw d) cd_M_rest (1, 0, n1) Q 18 [mR 144, mI x1, mI x2, mI 0, mI 0, none] [] w) : Wp (Cw d) cd_M_rest (1, 0, n1) Q 14 [mR 144, mI x1, mI x2, none, none, none] [] w :=
  Wp.s (Wp.s (Wp.s (Wp.s h)))
theorem M_rest_144_b18 {d : Nat} {n1 : Int} {Q : MV → Wd → Prop} {x1 x2 x3 x4 : Int} {w : Wd} (h1 : w 146 0.toNat ≤ x4 → Wp (Cw d) cd_M_rest (1, 0, n1) Q 55 [mR 144, mI x1, mI x2, mI x3, none, none] [] w) (h2 : ¬ (w 146 0.toNat ≤ x4) → Wp (Cw d) cd_M_rest (1, 0, n1) Q 24 [mR 144, mI x1, mI x2, mI x3, mI x4, none] [] w) : Wp (Cw d) cd_M_rest (1, 0, n1) Q 18 [mR 144, mI x1, mI x2, mI x3, mI x4, none] [] w :=
  Wp.s (Wp.s (Wp.s (Wp.s (Wp.s ⟨(by decide), Wp.s ⟨fun q => Wp.fgd (leA.k (leA.k (leA.k (leA.k (leA.f (leA.f leA.e)))))) (h1 q), fun q => h2 q⟩⟩))))
theorem M_rest_144_b24 {d : Nat} {n1 : Int} {Q : MV → Wd → Prop} {x1 x2 x3 x4 : Int} {w : Wd} (g1 : (0 : Int) ≤ w32 (15 + x4) ∧ w32 (15 + x4) < 645) (h1 : ¬ w 146 (w32 (15 + x4)).toNat = 0 → Wp (Cw d) cd_M_rest (1, 0, n1) Q 32 [mR 144, mI x1, mI x2, mI x3, mI x4, none] [] w) (h2 : ¬ (¬ w 146 (w32 (15 + x4)).toNat = 0) → Wp (Cw d) cd_M_rest (1, 0, n1) Q 31 [mR 144, mI x1, mI x2, mI x3, mI x4, none] [] w) : Wp (Cw d) cd_M_rest (1, 0, n1) Q 24 [mR 144, mI x1, mI x2, mI x3, mI x4, none] [] w :=
  Wp.s (Wp.s (Wp.s (Wp.s (Wp.s (Wp.s ⟨g1, Wp.s ⟨fun q => h1 q, fun q => h2 q⟩⟩)))))
theorem M_rest_144_b31 {d : Nat} {n1 : Int} {Q : MV → Wd → Prop} {x1 x2 x3 x4 : Int} {w : Wd} (h : Wp (Cw d) cd_M_rest (1, 0, n1) Q 53 [mR 144, mI x1, mI x2, mI x3, mI x4, none] [] w) : Wp (Cw d) cd_M_rest (1, 0, n1) Q 31 [mR 144, mI x1, mI x2, mI x3, mI x4, none] [] w :=
  Wp.s h
theorem M_rest_144_b32 {d : Nat} {n1 : Int} {Q : MV → Wd → Prop} {x1 x2 x3 x4 : Int} {w : Wd} (h : Cw d 250 [mR 144, mI x4] w (fun r w' => Wp (Cw d) cd_M_rest (1, 0, n1) Q 35 [mR 144, mI x1, mI x2, mI x3, mI x4, none] [r] w')) : Wp (Cw d) cd_M_rest (1, 0, n1) Q 32 [mR 144, mI x1, mI x2, mI x3, mI x4, none] [] w :=
  Wp.s (Wp.s (Wp.s h))
theorem M_rest_144_b35 {d : Nat} {n1 : Int} {Q : MV → Wd → Prop} {x1 x2 x3 x4 s0 : Int} {w : Wd} (h1 : ¬ x3 = 0 → Wp (Cw d) cd_M_rest (1, 0, n1) Q 44 [mR 144, mI x1, mI x2, none, mI x4, mI s0] [] w) (h2 : ¬ (¬ x3 = 0) → Wp (Cw d) cd_M_rest (1, 0, n1) Q 38 [mR 144, mI x1, mI x2, none, mI x4, mI s0] [] w) : Wp (Cw d) cd_M_rest (1, 0, n1) Q 35 [mR 144, mI x1, mI x2, mI x3, mI x4, none] [mI s0] w :=
  Wp.s (Wp.s (Wp.s ⟨fun q => Wp.fgd (leA.k (leA.k (leA.k (leA.f (leA.k (leA.k leA.e)))))) (h1 q), fun q => Wp.fgd (leA.k (leA.k (leA.k (leA.f (leA.k (leA.k leA.e)))))) (h2 q)⟩))
theorem M_rest_144_b38 {d : Nat} {n1 : Int} {Q : MV → Wd → Prop} {x1 x2 x4 x5 : Int} {w : Wd} (g1 : (0 : Int) ≤ x4 ∧ x4 < 8) (h1 : x5 = w 154 x4.toNat → Wp (Cw d) cd_M_rest (1, 0, n1) Q 46 [mR 144, mI x1, mI x2, none, mI x4, mI x5] [] w) (h2 : ¬ (x5 = w 154 x4.toNat) → Wp (Cw d) cd_M_rest (1, 0, n1) Q 44 [mR 144, mI x1, mI x2, none, mI x4, mI x5] [] w) : Wp (Cw d) cd_M_rest (1, 0, n1) Q 38 [mR 144, mI x1, mI x2, none, mI x4, mI x5] [] w :=
  Wp.s (Wp.s (Wp.s (Wp.s (Wp.s ⟨g1, Wp.s ⟨fun q => h1 q, fun q => h2 q⟩⟩))))
theorem M_rest_144_b44 {d : Nat} {n1 : Int} {Q : MV → Wd → Prop} {x1 x2 x4 x5 : Int} {w : Wd} (h : Wp (Cw d) cd_M_rest (1, 0, n1) Q 47 [mR 144, mI x1, mI x2, none, mI x4, mI x5] [mI 1] w) : Wp (Cw d) cd_M_rest (1, 0, n1) Q 44 [mR 144, mI x1, mI x2, none, mI x4, mI x5] [] w :=
  Wp.s (Wp.s h)
theorem M_rest_144_b46 {d : Nat} {n1 : Int} {Q : MV → Wd → Prop} {x1 x2 x4 x5 : Int} {w : Wd} (h : Wp (Cw d) cd_M_rest (1, 0, n1) Q 47 [mR 144, mI x1, mI x2, none, mI x4, mI x5] [mI 0] w) : Wp (Cw d) cd_M_rest (1, 0, n1) Q 46 [mR 144, mI x1, mI x2, none, mI x4, mI x5] [] w :=
  Wp.s h
theorem M_rest_144_b47 {d : Nat} {n1 : Int} {Q : MV → Wd → Prop} {x1 x2 x4 x5 s0 : Int} {w : Wd} (g1 : (0 : Int) ≤ x4 ∧ x4 < 8) (h : Wp (Cw d) cd_M_rest (1, 0, n1) Q 53 [mR 144, mI x1, mI x2, mI s0, mI x4, none] [] (ub w 154 x4.toNat x5)) : Wp (Cw d) cd_M_rest (1, 0, n1) Q 47 [mR 144, mI x1, mI x2, none, mI x4, mI x5] [mI s0] w :=
  Wp.s (Wp.s (Wp.s (Wp.s (Wp.s (Wp.s ⟨g1, Wp.fgd (leA.k (leA.k (leA.k (leA.k (leA.k (leA.f leA.e)))))) h⟩)))))
theorem M_rest_144_b53 {d : Nat} {n1 : Int} {Q : MV → Wd → Prop} {x1 x2 x3 x4 : Int} {w : Wd} (h : Wp (Cw d) cd_M_rest (1, 0, n1) Q 18 [mR 144, mI x1, mI x2, mI x3, mI (w32 (x4 + 1)), none] [] w) : Wp (Cw d) cd_M_rest (1, 0, n1) Q 53 [mR 144, mI x1, mI x2, mI x3, mI x4, none] [] w :=
  Wp.s (Wp.s h)
theorem M_rest_144_b55 {d : Nat} {n1 : Int} {Q : MV → Wd → Prop} {x1 x2 x3 : Int} {w : Wd} (h1 : ¬ x3 = 0 → Wp (Cw d) cd_M_rest (1, 0, n1) Q 59 [mR 144, mI x1, mI x2, none, none, none] [] w) (h2 : ¬ (¬ x3 = 0) → Wp (Cw d) cd_M_rest (1, 0, n1) Q 57 [mR 144, none, mI x2, none, none, none] [] w) : Wp (Cw d) cd_M_rest (1, 0, n1) Q 55 [mR 144, mI x1, mI x2, mI x3, none, none] [] w :=
  Wp.s (Wp.s ⟨fun q => Wp.fgd (leA.k (leA.k (leA.k (leA.f (leA.f (leA.f leA.e)))))) (h1 q), fun q => Wp.fgd (leA.k (leA.f (leA.k (leA.f (leA.f (leA.f leA.e)))))) (h2 q)⟩)
theorem M_rest_144_b57 {d : Nat} {n1 : Int} {Q : MV → Wd → Prop} {x2 : Int} {w : Wd} (h : Wp (Cw d) cd_M_rest (1, 0, n1) Q 59 [mR 144, mI x2, mI x2, none, none, none] [] w) : Wp (Cw d) cd_M_rest (1, 0, n1) Q 57 [mR 144, none, mI x2, none, none, none] [] w :=
  Wp.s (Wp.s h)
theorem M_rest_144_b59 {d : Nat} {n1 : Int} {Q : MV → Wd → Prop} {x1 x2 : Int} {w : Wd} (h : Wp (Cw d) cd_M_rest (1, 0, n1) Q 9 [mR 144, mI x1, mI (w32 (x2 + 1)), none, none, none] [] w) : Wp (Cw d) cd_M_rest (1, 0, n1) Q 59 [mR 144, mI x1, mI x2, none, none, none] [] w :=
  Wp.s (Wp.s h)
theorem M_rest_144_b61 {d : Nat} {n1 : Int} {Q : MV → Wd → Prop} {x1 : Int} {w : Wd} (h : Wp (Cw d) cd_M_rest (1, 0, n1) Q 69 [mR 144, mI x1, mI 0, none, none, none] [] (ub w 144 66 (w 146 0.toNat))) : Wp (Cw d) cd_M_rest (1, 0, n1) Q 61 [mR 144, mI x1, none, none, none, none] [] w :=
  Wp.s (Wp.s (Wp.s (Wp.s (Wp.s ⟨(by decide), Wp.s (Wp.s (Wp.s h))⟩))))
theorem M_rest_144_b69 {d : Nat} {n1 : Int} {Q : MV → Wd → Prop} {x1 x2 : Int} {w : Wd} (h1 : 8 ≤ x2 → Wp (Cw d) cd_M_rest (1, 0, n1) Q 82 [none, mI x1, none, none, none, none] [] w) (h2 : ¬ (8 ≤ x2) → Wp (Cw d) cd_M_rest (1, 0, n1) Q 72 [mR 144, mI x1, mI x2, none, none, none] [] w) : Wp (Cw d) cd_M_rest (1, 0, n1) Q 69 [mR 144, mI x1, mI x2, none, none, none] [] w :=
  Wp.s (Wp.s (Wp.s ⟨fun q => Wp.fgd (leA.f (leA.k (leA.f (leA.f (leA.f (leA.f leA.e)))))) (h1 q), fun q => h2 q⟩))
theorem M_rest_144_b72 {d : Nat} {n1 : Int} {Q : MV → Wd → Prop} {x1 x2 : Int} {w : Wd} (g1 : (0 : Int) ≤ x2 ∧ x2 < 8) (g2 : (0 : Int) ≤ x2 ∧ x2 < 8) (h : Wp (Cw d) cd_M_rest (1, 0, n1) Q 69 [mR 144, mI x1, mI (w32 (x2 + 1)), none, none, none] [] (ub w 176 x2.toNat (w 154 x2.toNat))) : Wp (Cw d) cd_M_rest (1, 0, n1) Q 72 [mR 144, mI x1, mI x2, none, none, none] [] w :=
  Wp.s (Wp.s (Wp.s (Wp.s (Wp.s (Wp.s (Wp.s ⟨g1, Wp.s ⟨g2, Wp.s (Wp.s h)⟩⟩))))))
theorem M_rest_144_b82 {d : Nat} {n1 : Int} {Q : MV → Wd → Prop} {x1 : Int} {w : Wd} (h : Q (mI x1) w) : Wp (Cw d) cd_M_rest (1, 0, n1) Q 82 [none, mI x1, none, none, none, none] [] w :=
  Wp.s (Wp.s h)
theorem X_restOf_0_b0 {d : Nat} {n1 : Int} {Q : MV → Wd → Prop} {x1 : Int} {w : Wd} (h1 : x1 < 0 → Wp (Cw d) cd_X_restOf (1, 0, n1) Q 7 [none, none] [] w) (h2 : ¬ (x1 < 0) → Wp (Cw d) cd_X_restOf (1, 0, n1) Q 2 [mR 0, mI x1] [] w) : Wp (Cw d) cd_X_restOf (1, 0, n1) Q 0 [mR 0, mI x1] [] w :=
  Wp.s (Wp.s ⟨fun q => Wp.fgd (leA.f (leA.f leA.e)) (h1 q), fun q => h2 q⟩)
theorem X_restOf_0_b2 {d : Nat} {n1 : Int} {Q : MV → Wd → Prop} {x1 : Int} {w : Wd} (h1 : x1 < w 140 3 → Wp (Cw d) cd_X_restOf (1, 0, n1) Q 9 [mR 0, mI x1] [] w) (h2 : ¬ (x1 < w 140 3) → Wp (Cw d) cd_X_restOf (1, 0, n1) Q 7 [none, none] [] w) : Wp (Cw d) cd_X_restOf (1, 0, n1) Q 2 [mR 0, mI x1] [] w :=
  Wp.s (Wp.s (Wp.s (Wp.s (Wp.s ⟨fun q => h1 q, fun q => Wp.fgd (leA.f (leA.f leA.e)) (h2 q)⟩))))
theorem X_restOf_0_b7 {d : Nat} {n1 : Int} {Q : MV → Wd → Prop} {w : Wd} (h : Wp (Cw d) cd_X_restOf (1, 0, n1) Q 14 [none, none] [mI ((-1))] w) : Wp (Cw d) cd_X_restOf (1, 0, n1) Q 7 [none, none] [] w :=
  Wp.s (Wp.s h)
theorem X_restOf_0_b9 {d : Nat} {n1 : Int} {Q : MV → Wd → Prop} {x1 : Int} {w : Wd} (g1 : (0 : Int) ≤ x1 ∧ x1 < 8) (h : Wp (Cw d) cd_X_restOf (1, 0, n1) Q 14 [none, none] [mI (w 142 x1.toNat)] w) : Wp (Cw d) cd_X_restOf (1, 0, n1) Q 9 [mR 0, mI x1] [] w :=
  Wp.s (Wp.s (Wp.s (Wp.s (Wp.s ⟨g1, Wp.fgd (leA.f (leA.f leA.e)) h⟩))))
theorem X_restOf_0_b14 {d : Nat} {n1 : Int} {Q : MV → Wd → Prop} {s0 : Int} {w : Wd} (h : Q (mI s0) w) : Wp (Cw d) cd_X_restOf (1, 0, n1) Q 14 [none, none] [mI s0] w :=
  Wp.s h
theorem M_restOf_144_b0 {d : Nat} {n1 : Int} {Q : MV → Wd → Prop} {x1 : Int} {w : Wd} (h : Cw d 187 [mI x1, mI 0, mI (w32 (((up1 (w 144) 0 0) 66) - 1))] (ub w 144 0 0) (fun r w' => Wp (Cw d) cd_M_restOf (1, 0, n1) Q 10 [mR 144, mI x1] [r] w')) : Wp (Cw d) cd_M_restOf (1, 0, n1) Q 0 [mR 144, mI x1] [] w :=
  Wp.s (Wp.s (Wp.s (Wp.s (Wp.s (Wp.s (Wp.s (Wp.s (Wp.s (Wp.s h)))))))))
theorem M_restOf_144_b10 {d : Nat} {n1 : Int} {Q : MV → Wd → Prop} {x1 s0 : Int} {w : Wd} (h1 : s0 = 0 → Wp (Cw d) cd_M_restOf (1, 0, n1) Q 16 [none, none] [] w) (h2 : ¬ (s0 = 0) → Wp (Cw d) cd_M_restOf (1, 0, n1) Q 11 [mR 144, mI x1] [] w) : Wp (Cw d) cd_M_restOf (1, 0, n1) Q 10 [mR 144, mI x1] [mI s0] w :=
  Wp.s ⟨fun q => Wp.fgd (leA.f (leA.f leA.e)) (h1 q), fun q => h2 q⟩
theorem M_restOf_144_b11 {d : Nat} {n1 : Int} {Q : MV → Wd → Prop} {x1 : Int} {w : Wd} (g1 : (0 : Int) ≤ x1 ∧ x1 < 8) (h : Wp (Cw d) cd_M_restOf (1, 0, n1) Q 17 [none, none] [mI (w 176 x1.toNat)] w) : Wp (Cw d) cd_M_restOf (1, 0, n1) Q 11 [mR 144, mI x1] [] w :=
  Wp.s (Wp.s (Wp.s (Wp.s ⟨g1, Wp.s (Wp.fgd (leA.f (leA.f leA.e)) h)⟩)))
theorem M_restOf_144_b16 {d : Nat} {n1 : Int} {Q : MV → Wd → Prop} {w : Wd} (h : Wp (Cw d) cd_M_restOf (1, 0, n1) Q 17 [none, none] [mI ((-1))] w) : Wp (Cw d) cd_M_restOf (1, 0, n1) Q 16 [none, none] [] w :=
  Wp.s h
theorem M_restOf_144_b17 {d : Nat} {n1 : Int} {Q : MV → Wd → Prop} {s0 : Int} {w : Wd} (h : Q (mI s0) w) : Wp (Cw d) cd_M_restOf (1, 0, n1) Q 17 [none, none] [mI s0] w :=
  Wp.s h
theorem X_middle_0_b0 {d : Nat} {n1 : Int} {Q : MV → Wd → Prop} {x1 : Int} {w : Wd} (h : Cw d 51 [mR 4, mI x1] w (fun r w' => Wp (Cw d) cd_X_middle (1, 0, n1) Q 4 [mR 0, mI x1, none, none] [r] w')) : Wp (Cw d) cd_X_middle (1, 0, n1) Q 0 [mR 0, mI x1, none, none] [] w :=
  Wp.s (Wp.s (Wp.s (Wp.s h)))
theorem X_middle_0_b4 {d : Nat} {n1 : Int} {Q : MV → Wd → Prop} {x1 s0 : Int} {w : Wd} (h1 : ¬ s0 = 0 → Wp (Cw d) cd_X_middle (1, 0, n1) Q 7 [mR 0, mI x1, none, none] [] w) (h2 : ¬ (¬ s0 = 0) → Wp (Cw d) cd_X_middle (1, 0, n1) Q 5 [none, none, none, none] [] w) : Wp (Cw d) cd_X_middle (1, 0, n1) Q 4 [mR 0, mI x1, none, none] [mI s0] w :=
  Wp.s ⟨fun q => h1 q, fun q => Wp.fgd (leA.f (leA.f (leA.f (leA.f leA.e)))) (h2 q)⟩
theorem X_middle_0_b5 {d : Nat} {n1 : Int} {Q : MV → Wd → Prop} {w : Wd} (h : Q (mI ((-1))) w) : Wp (Cw d) cd_X_middle (1, 0, n1) Q 5 [none, none, none, none] [] w :=
  Wp.s (Wp.s h)
theorem X_middle_0_b7 {d : Nat} {n1 : Int} {Q : MV → Wd → Prop} {x1 : Int} {w : Wd} (h : Cw d 117 [mR 0] w (fun r w' => Wp (Cw d) cd_X_middle (1, 0, n1) Q 9 [mR 0, mI x1, none, none] [r] w')) : Wp (Cw d) cd_X_middle (1, 0, n1) Q 7 [mR 0, mI x1, none, none] [] w :=
  Wp.s (Wp.s h)
theorem X_middle_0_b9 {d : Nat} {n1 : Int} {Q : MV → Wd → Prop} {x1 : Int} {w : Wd} (h : Cw d 121 [mR 112, mI x1] w (fun r w' => Wp (Cw d) cd_X_middle (1, 0, n1) Q 13 [mR 0, none, mR 112, none] [r] w')) : Wp (Cw d) cd_X_middle (1, 0, n1) Q 9 [mR 0, mI x1, none, none] [mR 112] w :=
  Wp.s (Wp.s (Wp.s (Wp.s (Cw_mono _ _ _ _ _ _ (fun r w' q => Wp.fgd (leA.k (leA.f (leA.k (leA.f leA.e)))) q) h))))
theorem X_middle_0_b13 {d : Nat} {n1 : Int} {Q : MV → Wd → Prop} {s0 : Int} {w : Wd} (h : Q (mI s0) (ub w 140 6 (w 112 8))) : Wp (Cw d) cd_X_middle (1, 0, n1) Q 13 [mR 0, none, mR 112, none] [mI s0] w :=
  Wp.s (Wp.s (Wp.s (Wp.s (Wp.s (Wp.s (Wp.s (Wp.s h)))))))
theorem M_middle_144_b0 {d : Nat} {n1 : Int} {Q : MV → Wd → Prop} {x1 : Int} {w : Wd} (h : Cw d 206 [mR 144, mI x1] (ub w 144 0 0) (fun r w' => Wp (Cw d) cd_M_middle (1, 0, n1) Q 6 [mR 144, mI x1, none] [r] w')) : Wp (Cw d) cd_M_middle (1, 0, n1) Q 0 [mR 144, mI x1, none] [] w :=
  Wp.s (Wp.s (Wp.s (Wp.s (Wp.s (Wp.s h)))))
theorem M_middle_144_b6 {d : Nat} {n1 : Int} {Q : MV → Wd → Prop} {x1 s0 : Int} {w : Wd} (h1 : ¬ s0 = 0 → Wp (Cw d) cd_M_middle (1, 0, n1) Q 9 [mR 144, mI x1, none] [] w) (h2 : ¬ (¬ s0 = 0) → Wp (Cw d) cd_M_middle (1, 0, n1) Q 7 [none, none, none] [] w) : Wp (Cw d) cd_M_middle (1, 0, n1) Q 6 [mR 144, mI x1, none] [mI s0] w :=
  Wp.s ⟨fun q => h1 q, fun q => Wp.fgd (leA.f (leA.f (leA.f leA.e))) (h2 q)⟩
theorem M_middle_144_b7 {d : Nat} {n1 : Int} {Q : MV → Wd → Prop} {w : Wd} (h : Q (mI ((-1))) w) : Wp (Cw d) cd_M_middle (1, 0, n1) Q 7 [none, none, none] [] w :=
  Wp.s (Wp.s h)
theorem M_middle_144_b9 {d : Nat} {n1 : Int} {Q : MV → Wd → Prop} {x1 : Int} {w : Wd} (h : Cw d 208 [mR 144] w (fun _ w' => Wp (Cw d) cd_M_middle (1, 0, n1) Q 11 [mR 144, mI x1, none] [] w')) : Wp (Cw d) cd_M_middle (1, 0, n1) Q 9 [mR 144, mI x1, none] [] w :=
  Wp.s (Wp.s h)
theorem M_middle_144_b11 {d : Nat} {n1 : Int} {Q : MV → Wd → Prop} {x1 : Int} {w : Wd} (h : Cw d 250 [mR 144, mI x1] w (fun r w' => Wp (Cw d) cd_M_middle (1, 0, n1) Q 14 [mR 144, none, none] [r] w')) : Wp (Cw d) cd_M_middle (1, 0, n1) Q 11 [mR 144, mI x1, none] [] w :=
  Wp.s (Wp.s (Wp.s (Cw_mono _ _ _ _ _ _ (fun r w' q => Wp.fgd (leA.k (leA.f (leA.f leA.e))) q) h)))
theorem M_middle_144_b14 {d : Nat} {n1 : Int} {Q : MV → Wd → Prop} {s0 : Int} {w : Wd} (h : Q (mI s0) (ub w 144 64 (w 144 63))) : Wp (Cw d) cd_M_middle (1, 0, n1) Q 14 [mR 144, none, none] [mI s0] w :=
  Wp.s (Wp.s (Wp.s (Wp.s (Wp.s (Wp.s (Wp.s h))))))
theorem X_middleBy_0_b0 {d : Nat} {n1 : Int} {Q : MV → Wd → Prop} {w : Wd} (h : Q (mI (w 140 6)) w) : Wp (Cw d) cd_X_middleBy (1, 0, n1) Q 0 [mR 0] [] w :=
  Wp.s (Wp.s (Wp.s (Wp.s h)))
theorem M_middleBy_144_b0 {d : Nat} {n1 : Int} {Q : MV → Wd → Prop} {w : Wd} (h : Q (mI ((up1 (w 144) 0 0) 64)) (ub w 144 0 0)) : Wp (Cw d) cd_M_middleBy (1, 0, n1) Q 0 [mR 144] [] w :=
  Wp.s (Wp.s (Wp.s (Wp.s (Wp.s (Wp.s h)))))
theorem X_ring_0_b0 {d : Nat} {n1 : Int} {Q : MV → Wd → Prop} {w : Wd} (h : Cw d 16 [mR 0] w (fun r w' => Wp (Cw d) cd_X_ring (1, 0, n1) Q 6 [mR 0] [r, mR 1, mR 137] w')) : Wp (Cw d) cd_X_ring (1, 0, n1) Q 0 [mR 0] [] w :=
  Wp.s (Wp.s (Wp.s (Wp.s (Wp.s (Wp.s h)))))
theorem X_ring_0_b6 {d : Nat} {n1 : Int} {Q : MV → Wd → Prop} {s0 : Int} {w : Wd} (h : Cw d 129 [mR 137, mR 1, mI s0] w (fun r w' => Wp (Cw d) cd_X_ring (1, 0, n1) Q 7 [mR 0] [r] w')) : Wp (Cw d) cd_X_ring (1, 0, n1) Q 6 [mR 0] [mI s0, mR 1, mR 137] w :=
  Wp.s h
theorem X_ring_0_b7 {d : Nat} {n1 : Int} {Q : MV → Wd → Prop} {s0 : Int} {w : Wd} (h1 : ¬ s0 = 0 → Wp (Cw d) cd_X_ring (1, 0, n1) Q 10 [mR 0] [] w) (h2 : ¬ (¬ s0 = 0) → Wp (Cw d) cd_X_ring (1, 0, n1) Q 8 [none] [] w) : Wp (Cw d) cd_X_ring (1, 0, n1) Q 7 [mR 0] [mI s0] w :=
  Wp.s ⟨fun q => h1 q, fun q => Wp.fgd (leA.f leA.e) (h2 q)⟩
theorem X_ring_0_b8 {d : Nat} {n1 : Int} {Q : MV → Wd → Prop} {w : Wd} (h : Q (mI ((-2))) w) : Wp (Cw d) cd_X_ring (1, 0, n1) Q 8 [none] [] w :=
  Wp.s (Wp.s h)
theorem X_ring_0_b10 {d : Nat} {n1 : Int} {Q : MV → Wd → Prop} {w : Wd} (h : Cw d 130 [mR 137] w (fun r w' => Wp (Cw d) cd_X_ring (1, 0, n1) Q 13 [mR 0] [r] w')) : Wp (Cw d) cd_X_ring (1, 0, n1) Q 10 [mR 0] [] w :=
  Wp.s (Wp.s (Wp.s h))
theorem X_ring_0_b13 {d : Nat} {n1 : Int} {Q : MV → Wd → Prop} {s0 : Int} {w : Wd} (h1 : ¬ s0 = 0 → Wp (Cw d) cd_X_ring (1, 0, n1) Q 16 [mR 0] [] w) (h2 : ¬ (¬ s0 = 0) → Wp (Cw d) cd_X_ring (1, 0, n1) Q 14 [none] [] w) : Wp (Cw d) cd_X_ring (1, 0, n1) Q 13 [mR 0] [mI s0] w :=
  Wp.s ⟨fun q => h1 q, fun q => Wp.fgd (leA.f leA.e) (h2 q)⟩
theorem X_ring_0_b14 {d : Nat} {n1 : Int} {Q : MV → Wd → Prop} {w : Wd} (h : Q (mI ((-1))) w) : Wp (Cw d) cd_X_ring (1, 0, n1) Q 14 [none] [] w :=
  Wp.s (Wp.s h)
theorem X_ring_0_b16 {d : Nat} {n1 : Int} {Q : MV → Wd → Prop} {w : Wd} (h : Cw d 134 [mR 137] w (fun _ w' => Wp (Cw d) cd_X_ring (1, 0, n1) Q 19 [mR 0] [] w')) : Wp (Cw d) cd_X_ring (1, 0, n1) Q 16 [mR 0] [] w :=
  Wp.s (Wp.s (Wp.s h))
theorem X_ring_0_b19 {d : Nat} {n1 : Int} {Q : MV → Wd → Prop} {w : Wd} (h : Cw d 139 [mR 140, mR 139, mI (w 137 2)] w (fun _ w' => Wp (Cw d) cd_X_ring (1, 0, n1) Q 28 [mR 0] [] w')) : Wp (Cw d) cd_X_ring (1, 0, n1) Q 19 [mR 0] [] w :=
  Wp.s (Wp.s (Wp.s (Wp.s (Wp.s (Wp.s (Wp.s (Wp.s (Wp.s h))))))))
theorem X_ring_0_b28 {d : Nat} {n1 : Int} {Q : MV → Wd → Prop} {w : Wd} (h : Cw d 140 [mR 137] w (fun r w' => Wp (Cw d) cd_X_ring (1, 0, n1) Q 31 [none] [r] w')) : Wp (Cw d) cd_X_ring (1, 0, n1) Q 28 [mR 0] [] w :=
  Wp.s (Wp.s (Wp.s (Cw_mono _ _ _ _ _ _ (fun r w' q => Wp.fgd (leA.f leA.e) q) h)))
theorem X_ring_0_b31 {d : Nat} {n1 : Int} {Q : MV → Wd → Prop} {s0 : Int} {w : Wd} (h : Q (mI s0) w) : Wp (Cw d) cd_X_ring (1, 0, n1) Q 31 [none] [mI s0] w :=
  Wp.s h
theorem M_ring_144_b0 {d : Nat} {n1 : Int} {Q : MV → Wd → Prop} {w : Wd} (h : Cw d 174 [mR 144, mI 1040] (ub w 144 0 0) (fun _ w' => Wp (Cw d) cd_M_ring (1, 0, n1) Q 6 [mR 144, none, none] [] w')) : Wp (Cw d) cd_M_ring (1, 0, n1) Q 0 [mR 144, none, none] [] w :=
  Wp.s (Wp.s (Wp.s (Wp.s (Wp.s (Wp.s h)))))
theorem M_ring_144_b6 {d : Nat} {n1 : Int} {Q : MV → Wd → Prop} {w : Wd} (h : Cw d 255 [mR 144] w (fun r w' => Wp (Cw d) cd_M_ring (1, 0, n1) Q 8 [mR 144, none, none] [r] w')) : Wp (Cw d) cd_M_ring (1, 0, n1) Q 6 [mR 144, none, none] [] w :=
  Wp.s (Wp.s h)
theorem M_ring_144_b8 {d : Nat} {n1 : Int} {Q : MV → Wd → Prop} {s0 : Int} {w : Wd} (h1 : ¬ s0 = 0 → Wp (Cw d) cd_M_ring (1, 0, n1) Q 11 [mR 144, none, none] [] w) (h2 : ¬ (¬ s0 = 0) → Wp (Cw d) cd_M_ring (1, 0, n1) Q 9 [none, none, none] [] w) : Wp (Cw d) cd_M_ring (1, 0, n1) Q 8 [mR 144, none, none] [mI s0] w :=
  Wp.s ⟨fun q => h1 q, fun q => Wp.fgd (leA.f (leA.f (leA.f leA.e))) (h2 q)⟩
theorem M_ring_144_b9 {d : Nat} {n1 : Int} {Q : MV → Wd → Prop} {w : Wd} (h : Q (mI ((-2))) w) : Wp (Cw d) cd_M_ring (1, 0, n1) Q 9 [none, none, none] [] w :=
  Wp.s (Wp.s h)
theorem M_ring_144_b11 {d : Nat} {n1 : Int} {Q : MV → Wd → Prop} {w : Wd} (h : Cw d 257 [mR 144] w (fun r w' => Wp (Cw d) cd_M_ring (1, 0, n1) Q 13 [mR 144, none, none] [r] w')) : Wp (Cw d) cd_M_ring (1, 0, n1) Q 11 [mR 144, none, none] [] w :=
  Wp.s (Wp.s h)
theorem M_ring_144_b13 {d : Nat} {n1 : Int} {Q : MV → Wd → Prop} {s0 : Int} {w : Wd} (h1 : ¬ s0 = 0 → Wp (Cw d) cd_M_ring (1, 0, n1) Q 16 [mR 144, none, none] [] w) (h2 : ¬ (¬ s0 = 0) → Wp (Cw d) cd_M_ring (1, 0, n1) Q 14 [none, none, none] [] w) : Wp (Cw d) cd_M_ring (1, 0, n1) Q 13 [mR 144, none, none] [mI s0] w :=
  Wp.s ⟨fun q => h1 q, fun q => Wp.fgd (leA.f (leA.f (leA.f leA.e))) (h2 q)⟩
theorem M_ring_144_b14 {d : Nat} {n1 : Int} {Q : MV → Wd → Prop} {w : Wd} (h : Q (mI ((-1))) w) : Wp (Cw d) cd_M_ring (1, 0, n1) Q 14 [none, none, none] [] w :=
  Wp.s (Wp.s h)
theorem M_ring_144_b16 {d : Nat} {n1 : Int} {Q : MV → Wd → Prop} {w : Wd} (h : Cw d 258 [mR 144] w (fun _ w' => Wp (Cw d) cd_M_ring (1, 0, n1) Q 18 [mR 144, none, none] [] w')) : Wp (Cw d) cd_M_ring (1, 0, n1) Q 16 [mR 144, none, none] [] w :=
  Wp.s (Wp.s h)
theorem M_ring_144_b18 {d : Nat} {n1 : Int} {Q : MV → Wd → Prop} {w : Wd} (h : Wp (Cw d) cd_M_ring (1, 0, n1) Q 26 [mR 144, mI 0, mI 0] [] (ub w 144 71 (w 144 70))) : Wp (Cw d) cd_M_ring (1, 0, n1) Q 18 [mR 144, none, none] [] w :=
  Wp.s (Wp.s (Wp.s (Wp.s (Wp.s (Wp.s (Wp.s (Wp.s h)))))))
theorem M_ring_144_b26 {d : Nat} {n1 : Int} {Q : MV → Wd → Prop} {x1 x2 : Int} {w : Wd} (h1 : w 144 70 ≤ x2 → Wp (Cw d) cd_M_ring (1, 0, n1) Q 56 [none, mI x1, none] [] w) (h2 : ¬ (w 144 70 ≤ x2) → Wp (Cw d) cd_M_ring (1, 0, n1) Q 30 [mR 144, mI x1, mI x2] [] w) : Wp (Cw d) cd_M_ring (1, 0, n1) Q 26 [mR 144, mI x1, mI x2] [] w :=
  Wp.s (Wp.s (Wp.s (Wp.s ⟨fun q => Wp.fgd (leA.f (leA.k (leA.f leA.e))) (h1 q), fun q => h2 q⟩)))
theorem M_ring_144_b30 {d : Nat} {n1 : Int} {Q : MV → Wd → Prop} {x1 x2 : Int} {w : Wd} (g1 : (0 : Int) ≤ x2 ∧ x2 < 8) (g2 : (0 : Int) ≤ x2 ∧ x2 < 8) (g3 : (0 : Int) ≤ x2 ∧ x2 < 8) (h1 : 0 ≤ w 178 x2.toNat → Wp (Cw d) cd_M_ring (1, 0, n1) Q 51 [mR 144, none, mI x2] [mI x1] (ub w 179 x2.toNat (w 178 x2.toNat))) (h2 : ¬ (0 ≤ w 178 x2.toNat) → Wp (Cw d) cd_M_ring (1, 0, n1) Q 44 [mR 144, none, mI x2] [mI x1] (ub w 179 x2.toNat (w 178 x2.toNat))) : Wp (Cw d) cd_M_ring (1, 0, n1) Q 30 [mR 144, mI x1, mI x2] [] w :=
  Wp.s (Wp.s (Wp.s (Wp.s (Wp.s (Wp.s (Wp.s ⟨g1, Wp.s ⟨g2, Wp.s (Wp.s (Wp.s (Wp.s (Wp.s ⟨g3, Wp.s ⟨fun q => Wp.fgd (leA.k (leA.f (leA.k leA.e))) (h1 q), fun q => Wp.fgd (leA.k (leA.f (leA.k leA.e))) (h2 q)⟩⟩))))⟩⟩))))))
theorem M_ring_144_b44 {d : Nat} {n1 : Int} {Q : MV → Wd → Prop} {x2 s0 : Int} {w : Wd} (g1 : (0 : Int) ≤ x2 ∧ x2 < 8) (h : Wp (Cw d) cd_M_ring (1, 0, n1) Q 52 [mR 144, none, mI x2] [mI (ishl 1 (w 177 x2.toNat)), mI s0] w) : Wp (Cw d) cd_M_ring (1, 0, n1) Q 44 [mR 144, none, mI x2] [mI s0] w :=
  Wp.s (Wp.s (Wp.s (Wp.s (Wp.s ⟨g1, Wp.s (Wp.s h)⟩))))
theorem M_ring_144_b51 {d : Nat} {n1 : Int} {Q : MV → Wd → Prop} {x2 s0 : Int} {w : Wd} (h : Wp (Cw d) cd_M_ring (1, 0, n1) Q 52 [mR 144, none, mI x2] [mI 0, mI s0] w) : Wp (Cw d) cd_M_ring (1, 0, n1) Q 51 [mR 144, none, mI x2] [mI s0] w :=
  Wp.s h
theorem M_ring_144_b52 {d : Nat} {n1 : Int} {Q : MV → Wd → Prop} {x2 s0 s1 : Int} {w : Wd} (h : Wp (Cw d) cd_M_ring (1, 0, n1) Q 26 [mR 144, mI (ior s1 s0), mI (w32 (x2 + 1))] [] w) : Wp (Cw d) cd_M_ring (1, 0, n1) Q 52 [mR 144, none, mI x2] [mI s0, mI s1] w :=
  Wp.s (Wp.s (Wp.s (Wp.s h)))
theorem M_ring_144_b56 {d : Nat} {n1 : Int} {Q : MV → Wd → Prop} {x1 : Int} {w : Wd} (h : Q (mI x1) w) : Wp (Cw d) cd_M_ring (1, 0, n1) Q 56 [none, mI x1, none] [] w :=
  Wp.s (Wp.s h)
theorem M_gain1_144_b0 {d : Nat} {n1 : Int} {Q : MV → Wd → Prop} {x1 : Int} {w : Wd} (h : Cw d 187 [mI x1, mI 0, mI (w32 ((w 144 71) - 1))] w (fun r w' => Wp (Cw d) cd_M_gain1 (1, 0, n1) Q 8 [mR 144, mI x1] [r, mR 144] w')) : Wp (Cw d) cd_M_gain1 (1, 0, n1) Q 0 [mR 144, mI x1] [] w :=
  Wp.s (Wp.s (Wp.s (Wp.s (Wp.s (Wp.s (Wp.s (Wp.s h)))))))
theorem M_gain1_144_b8 {d : Nat} {n1 : Int} {Q : MV → Wd → Prop} {x1 s0 : Int} {w : Wd} (h1 : ¬ s0 = 0 → Wp (Cw d) cd_M_gain1 (1, 0, n1) Q 11 [mR 144, mI x1] [mR 144] w) (h2 : ¬ (¬ s0 = 0) → Wp (Cw d) cd_M_gain1 (1, 0, n1) Q 9 [mR 144, mI x1] [mR 144] w) : Wp (Cw d) cd_M_gain1 (1, 0, n1) Q 8 [mR 144, mI x1] [mI s0, mR 144] w :=
  Wp.s ⟨fun q => h1 q, fun q => h2 q⟩
theorem M_gain1_144_b9 {d : Nat} {n1 : Int} {Q : MV → Wd → Prop} {x1 : Int} {w : Wd} (h : Wp (Cw d) cd_M_gain1 (1, 0, n1) Q 12 [mR 144, mI x1] [mI 1, mR 144] w) : Wp (Cw d) cd_M_gain1 (1, 0, n1) Q 9 [mR 144, mI x1] [mR 144] w :=
  Wp.s (Wp.s h)
theorem M_gain1_144_b11 {d : Nat} {n1 : Int} {Q : MV → Wd → Prop} {x1 : Int} {w : Wd} (h : Wp (Cw d) cd_M_gain1 (1, 0, n1) Q 12 [mR 144, mI x1] [mI 0, mR 144] w) : Wp (Cw d) cd_M_gain1 (1, 0, n1) Q 11 [mR 144, mI x1] [mR 144] w :=
  Wp.s h
theorem M_gain1_144_b12 {d : Nat} {n1 : Int} {Q : MV → Wd → Prop} {x1 s0 : Int} {w : Wd} (h : Cw d 200 [mR 144, mI s0] w (fun r w' => Wp (Cw d) cd_M_gain1 (1, 0, n1) Q 13 [mR 144, mI x1] [r] w')) : Wp (Cw d) cd_M_gain1 (1, 0, n1) Q 12 [mR 144, mI x1] [mI s0, mR 144] w :=
  Wp.s h
theorem M_gain1_144_b13 {d : Nat} {n1 : Int} {Q : MV → Wd → Prop} {x1 s0 : Int} {w : Wd} (h1 : s0 = 0 → Wp (Cw d) cd_M_gain1 (1, 0, n1) Q 16 [mR 144, mI x1] [] w) (h2 : ¬ (s0 = 0) → Wp (Cw d) cd_M_gain1 (1, 0, n1) Q 14 [none, none] [] w) : Wp (Cw d) cd_M_gain1 (1, 0, n1) Q 13 [mR 144, mI x1] [mI s0] w :=
  Wp.s ⟨fun q => h1 q, fun q => Wp.fgd (leA.f (leA.f leA.e)) (h2 q)⟩
theorem M_gain1_144_b14 {d : Nat} {n1 : Int} {Q : MV → Wd → Prop} {w : Wd} (h : Wp (Cw d) cd_M_gain1 (1, 0, n1) Q 20 [none, none] [mI 0] w) : Wp (Cw d) cd_M_gain1 (1, 0, n1) Q 14 [none, none] [] w :=
  Wp.s (Wp.s h)
theorem M_gain1_144_b16 {d : Nat} {n1 : Int} {Q : MV → Wd → Prop} {x1 : Int} {w : Wd} (g1 : (0 : Int) ≤ x1 ∧ x1 < 8) (h : Wp (Cw d) cd_M_gain1 (1, 0, n1) Q 20 [none, none] [mI (w 179 x1.toNat)] w) : Wp (Cw d) cd_M_gain1 (1, 0, n1) Q 16 [mR 144, mI x1] [] w :=
  Wp.s (Wp.s (Wp.s (Wp.s ⟨g1, Wp.fgd (leA.f (leA.f leA.e)) h⟩)))
theorem M_gain1_144_b20 {d : Nat} {n1 : Int} {Q : MV → Wd → Prop} {s0 : Int} {w : Wd} (h : Q (mI s0) w) : Wp (Cw d) cd_M_gain1 (1, 0, n1) Q 20 [none, none] [mI s0] w :=
  Wp.s h
theorem X_lasts_0_b0 {d : Nat} {n1 : Int} {Q : MV → Wd → Prop} {w : Wd} (h : Cw d 16 [mR 0] w (fun r w' => Wp (Cw d) cd_X_lasts (1, 0, n1) Q 6 [mR 0, none, none] [r, mR 1, mR 137] w')) : Wp (Cw d) cd_X_lasts (1, 0, n1) Q 0 [mR 0, none, none] [] w :=
  Wp.s (Wp.s (Wp.s (Wp.s (Wp.s (Wp.s h)))))
theorem X_lasts_0_b6 {d : Nat} {n1 : Int} {Q : MV → Wd → Prop} {s0 : Int} {w : Wd} (h : Cw d 129 [mR 137, mR 1, mI s0] w (fun r w' => Wp (Cw d) cd_X_lasts (1, 0, n1) Q 7 [mR 0, none, none] [r] w')) : Wp (Cw d) cd_X_lasts (1, 0, n1) Q 6 [mR 0, none, none] [mI s0, mR 1, mR 137] w :=
  Wp.s h
theorem X_lasts_0_b7 {d : Nat} {n1 : Int} {Q : MV → Wd → Prop} {s0 : Int} {w : Wd} (h1 : ¬ s0 = 0 → Wp (Cw d) cd_X_lasts (1, 0, n1) Q 10 [mR 0, none, none] [] w) (h2 : ¬ (¬ s0 = 0) → Wp (Cw d) cd_X_lasts (1, 0, n1) Q 8 [none, none, none] [] w) : Wp (Cw d) cd_X_lasts (1, 0, n1) Q 7 [mR 0, none, none] [mI s0] w :=
  Wp.s ⟨fun q => h1 q, fun q => Wp.fgd (leA.f (leA.f (leA.f leA.e))) (h2 q)⟩
theorem X_lasts_0_b8 {d : Nat} {n1 : Int} {Q : MV → Wd → Prop} {w : Wd} (h : Q (mI ((-2))) w) : Wp (Cw d) cd_X_lasts (1, 0, n1) Q 8 [none, none, none] [] w :=
  Wp.s (Wp.s h)
theorem X_lasts_0_b10 {d : Nat} {n1 : Int} {Q : MV → Wd → Prop} {w : Wd} (h : Wp (Cw d) cd_X_lasts (1, 0, n1) Q 12 [mR 0, mI 0, none] [] w) : Wp (Cw d) cd_X_lasts (1, 0, n1) Q 10 [mR 0, none, none] [] w :=
  Wp.s (Wp.s h)
theorem X_lasts_0_b12 {d : Nat} {n1 : Int} {Q : MV → Wd → Prop} {x1 : Int} {w : Wd} (h1 : 8 < x1 → Wp (Cw d) cd_X_lasts (1, 0, n1) Q 45 [none, none, none] [] w) (h2 : ¬ (8 < x1) → Wp (Cw d) cd_X_lasts (1, 0, n1) Q 15 [mR 0, mI x1, none] [] w) : Wp (Cw d) cd_X_lasts (1, 0, n1) Q 12 [mR 0, mI x1, none] [] w :=
  Wp.s (Wp.s (Wp.s ⟨fun q => Wp.fgd (leA.f (leA.f (leA.f leA.e))) (h1 q), fun q => h2 q⟩))
theorem X_lasts_0_b15 {d : Nat} {n1 : Int} {Q : MV → Wd → Prop} {x1 : Int} {w : Wd} (h1 : w 137 2 < 2 → Wp (Cw d) cd_X_lasts (1, 0, n1) Q 24 [none, none, none] [] w) (h2 : ¬ (w 137 2 < 2) → Wp (Cw d) cd_X_lasts (1, 0, n1) Q 20 [mR 0, mI x1, none] [] w) : Wp (Cw d) cd_X_lasts (1, 0, n1) Q 15 [mR 0, mI x1, none] [] w :=
  Wp.s (Wp.s (Wp.s (Wp.s (Wp.s ⟨fun q => Wp.fgd (leA.f (leA.f (leA.f leA.e))) (h1 q), fun q => h2 q⟩))))
theorem X_lasts_0_b20 {d : Nat} {n1 : Int} {Q : MV → Wd → Prop} {x1 : Int} {w : Wd} (h : Cw d 130 [mR 137] w (fun r w' => Wp (Cw d) cd_X_lasts (1, 0, n1) Q 23 [mR 0, mI x1, none] [r] w')) : Wp (Cw d) cd_X_lasts (1, 0, n1) Q 20 [mR 0, mI x1, none] [] w :=
  Wp.s (Wp.s (Wp.s h))
theorem X_lasts_0_b23 {d : Nat} {n1 : Int} {Q : MV → Wd → Prop} {x1 s0 : Int} {w : Wd} (h1 : ¬ s0 = 0 → Wp (Cw d) cd_X_lasts (1, 0, n1) Q 26 [mR 0, mI x1, none] [] w) (h2 : ¬ (¬ s0 = 0) → Wp (Cw d) cd_X_lasts (1, 0, n1) Q 24 [none, none, none] [] w) : Wp (Cw d) cd_X_lasts (1, 0, n1) Q 23 [mR 0, mI x1, none] [mI s0] w :=
  Wp.s ⟨fun q => h1 q, fun q => Wp.fgd (leA.f (leA.f (leA.f leA.e))) (h2 q)⟩
theorem X_lasts_0_b24 {d : Nat} {n1 : Int} {Q : MV → Wd → Prop} {w : Wd} (h : Q (mI ((-1))) w) : Wp (Cw d) cd_X_lasts (1, 0, n1) Q 24 [none, none, none] [] w :=
  Wp.s (Wp.s h)
theorem X_lasts_0_b26 {d : Nat} {n1 : Int} {Q : MV → Wd → Prop} {x1 : Int} {w : Wd} (h : Cw d 134 [mR 137] w (fun _ w' => Wp (Cw d) cd_X_lasts (1, 0, n1) Q 29 [mR 0, mI x1, none] [] w')) : Wp (Cw d) cd_X_lasts (1, 0, n1) Q 26 [mR 0, mI x1, none] [] w :=
  Wp.s (Wp.s (Wp.s h))
theorem X_lasts_0_b29 {d : Nat} {n1 : Int} {Q : MV → Wd → Prop} {x1 : Int} {w : Wd} (h : Cw d 140 [mR 137] w (fun r w' => Wp (Cw d) cd_X_lasts (1, 0, n1) Q 32 [mR 0, mI x1, none] [r] w')) : Wp (Cw d) cd_X_lasts (1, 0, n1) Q 29 [mR 0, mI x1, none] [] w :=
  Wp.s (Wp.s (Wp.s h))
theorem X_lasts_0_b32 {d : Nat} {n1 : Int} {Q : MV → Wd → Prop} {x1 s0 : Int} {w : Wd} (h1 : ¬ s0 = 0 → Wp (Cw d) cd_X_lasts (1, 0, n1) Q 39 [mR 0, mI x1, mI s0] [] w) (h2 : ¬ (¬ s0 = 0) → Wp (Cw d) cd_X_lasts (1, 0, n1) Q 35 [mR 0, none, none] [] w) : Wp (Cw d) cd_X_lasts (1, 0, n1) Q 32 [mR 0, mI x1, none] [mI s0] w :=
  Wp.s (Wp.s (Wp.s ⟨fun q => h1 q, fun q => Wp.fgd (leA.k (leA.f (leA.f leA.e))) (h2 q)⟩))
theorem X_lasts_0_b35 {d : Nat} {n1 : Int} {Q : MV → Wd → Prop} {w : Wd} (h : Cw d 142 [mR 137] w (fun r w' => Wp (Cw d) cd_X_lasts (1, 0, n1) Q 38 [none, none, none] [r] w')) : Wp (Cw d) cd_X_lasts (1, 0, n1) Q 35 [mR 0, none, none] [] w :=
  Wp.s (Wp.s (Wp.s (Cw_mono _ _ _ _ _ _ (fun r w' q => Wp.fgd (leA.f (leA.f (leA.f leA.e))) q) h)))
theorem X_lasts_0_b38 {d : Nat} {n1 : Int} {Q : MV → Wd → Prop} {s0 : Int} {w : Wd} (h : Q (mI s0) w) : Wp (Cw d) cd_X_lasts (1, 0, n1) Q 38 [none, none, none] [mI s0] w :=
  Wp.s h
theorem X_lasts_0_b39 {d : Nat} {n1 : Int} {Q : MV → Wd → Prop} {x1 x2 : Int} {w : Wd} (h : Cw d 143 [mR 137, mI x2] w (fun _ w' => Wp (Cw d) cd_X_lasts (1, 0, n1) Q 43 [mR 0, mI x1, none] [] w')) : Wp (Cw d) cd_X_lasts (1, 0, n1) Q 39 [mR 0, mI x1, mI x2] [] w :=
  Wp.s (Wp.s (Wp.s (Wp.s (Cw_mono _ _ _ _ _ _ (fun r w' q => Wp.fgd (leA.k (leA.k (leA.f leA.e))) q) h))))
theorem X_lasts_0_b43 {d : Nat} {n1 : Int} {Q : MV → Wd → Prop} {x1 : Int} {w : Wd} (h : Wp (Cw d) cd_X_lasts (1, 0, n1) Q 12 [mR 0, mI (w32 (x1 + 1)), none] [] w) : Wp (Cw d) cd_X_lasts (1, 0, n1) Q 43 [mR 0, mI x1, none] [] w :=
  Wp.s (Wp.s h)
theorem X_lasts_0_b45 {d : Nat} {n1 : Int} {Q : MV → Wd → Prop} {w : Wd} (h : Q (mI ((-1))) w) : Wp (Cw d) cd_X_lasts (1, 0, n1) Q 45 [none, none, none] [] w :=
  Wp.s (Wp.s h)
theorem M_lasts_144_b0 {d : Nat} {n1 : Int} {Q : MV → Wd → Prop} {w : Wd} (h : Cw d 174 [mR 144, mI 1040] (ub w 144 0 0) (fun _ w' => Wp (Cw d) cd_M_lasts (1, 0, n1) Q 6 [mR 144, none, none, none] [] w')) : Wp (Cw d) cd_M_lasts (1, 0, n1) Q 0 [mR 144, none, none, none] [] w :=
  Wp.s (Wp.s (Wp.s (Wp.s (Wp.s (Wp.s h)))))
theorem M_lasts_144_b6 {d : Nat} {n1 : Int} {Q : MV → Wd → Prop} {w : Wd} (h : Cw d 255 [mR 144] w (fun r w' => Wp (Cw d) cd_M_lasts (1, 0, n1) Q 8 [mR 144, none, none, none] [r] w')) : Wp (Cw d) cd_M_lasts (1, 0, n1) Q 6 [mR 144, none, none, none] [] w :=
  Wp.s (Wp.s h)
theorem M_lasts_144_b8 {d : Nat} {n1 : Int} {Q : MV → Wd → Prop} {s0 : Int} {w : Wd} (h1 : ¬ s0 = 0 → Wp (Cw d) cd_M_lasts (1, 0, n1) Q 11 [mR 144, none, none, none] [] w) (h2 : ¬ (¬ s0 = 0) → Wp (Cw d) cd_M_lasts (1, 0, n1) Q 9 [none, none, none, none] [] w) : Wp (Cw d) cd_M_lasts (1, 0, n1) Q 8 [mR 144, none, none, none] [mI s0] w :=
  Wp.s ⟨fun q => h1 q, fun q => Wp.fgd (leA.f (leA.f (leA.f (leA.f leA.e)))) (h2 q)⟩
theorem M_lasts_144_b9 {d : Nat} {n1 : Int} {Q : MV → Wd → Prop} {w : Wd} (h : Q (mI ((-2))) w) : Wp (Cw d) cd_M_lasts (1, 0, n1) Q 9 [none, none, none, none] [] w :=
  Wp.s (Wp.s h)
theorem M_lasts_144_b11 {d : Nat} {n1 : Int} {Q : MV → Wd → Prop} {w : Wd} (h1 : w 144 70 ≤ 1 → Wp (Cw d) cd_M_lasts (1, 0, n1) Q 66 [none, none, none, none] [] w) (h2 : ¬ (w 144 70 ≤ 1) → Wp (Cw d) cd_M_lasts (1, 0, n1) Q 15 [mR 144, none, none, none] [] w) : Wp (Cw d) cd_M_lasts (1, 0, n1) Q 11 [mR 144, none, none, none] [] w :=
  Wp.s (Wp.s (Wp.s (Wp.s ⟨fun q => Wp.fgd (leA.f (leA.f (leA.f (leA.f leA.e)))) (h1 q), fun q => h2 q⟩)))
theorem M_lasts_144_b15 {d : Nat} {n1 : Int} {Q : MV → Wd → Prop} {w : Wd} (h : Cw d 257 [mR 144] w (fun r w' => Wp (Cw d) cd_M_lasts (1, 0, n1) Q 17 [mR 144, none, none, none] [r] w')) : Wp (Cw d) cd_M_lasts (1, 0, n1) Q 15 [mR 144, none, none, none] [] w :=
  Wp.s (Wp.s h)
theorem M_lasts_144_b17 {d : Nat} {n1 : Int} {Q : MV → Wd → Prop} {s0 : Int} {w : Wd} (h1 : s0 = 0 → Wp (Cw d) cd_M_lasts (1, 0, n1) Q 66 [none, none, none, none] [] w) (h2 : ¬ (s0 = 0) → Wp (Cw d) cd_M_lasts (1, 0, n1) Q 18 [mR 144, none, none, none] [] w) : Wp (Cw d) cd_M_lasts (1, 0, n1) Q 17 [mR 144, none, none, none] [mI s0] w :=
  Wp.s ⟨fun q => Wp.fgd (leA.f (leA.f (leA.f (leA.f leA.e)))) (h1 q), fun q => h2 q⟩
theorem M_lasts_144_b18 {d : Nat} {n1 : Int} {Q : MV → Wd → Prop} {w : Wd} (h : Cw d 258 [mR 144] w (fun _ w' => Wp (Cw d) cd_M_lasts (1, 0, n1) Q 20 [mR 144, none, none, none] [] w')) : Wp (Cw d) cd_M_lasts (1, 0, n1) Q 18 [mR 144, none, none, none] [] w :=
  Wp.s (Wp.s h)
theorem M_lasts_144_b20 {d : Nat} {n1 : Int} {Q : MV → Wd → Prop} {w : Wd} (h : Wp (Cw d) cd_M_lasts (1, 0, n1) Q 26 [mR 144, mI 0, mI 0, mI 0] [] w) : Wp (Cw d) cd_M_lasts (1, 0, n1) Q 20 [mR 144, none, none, none] [] w :=
  Wp.s (Wp.s (Wp.s (Wp.s (Wp.s (Wp.s h)))))
theorem M_lasts_144_b26 {d : Nat} {n1 : Int} {Q : MV → Wd → Prop} {x1 x2 x3 : Int} {w : Wd} (h1 : w 144 70 ≤ x3 → Wp (Cw d) cd_M_lasts (1, 0, n1) Q 56 [mR 144, mI x1, mI x2, none] [] w) (h2 : ¬ (w 144 70 ≤ x3) → Wp (Cw d) cd_M_lasts (1, 0, n1) Q 30 [mR 144, mI x1, mI x2, mI x3] [] w) : Wp (Cw d) cd_M_lasts (1, 0, n1) Q 26 [mR 144, mI x1, mI x2, mI x3] [] w :=
  Wp.s (Wp.s (Wp.s (Wp.s ⟨fun q => Wp.fgd (leA.k (leA.k (leA.k (leA.f leA.e)))) (h1 q), fun q => h2 q⟩)))
theorem M_lasts_144_b30 {d : Nat} {n1 : Int} {Q : MV → Wd → Prop} {x1 x2 x3 : Int} {w : Wd} (g1 : (0 : Int) ≤ x3 ∧ x3 < 8) (h1 : 0 ≤ w 178 x3.toNat → Wp (Cw d) cd_M_lasts (1, 0, n1) Q 36 [mR 144, mI x1, mI x2, mI x3] [] w) (h2 : ¬ (0 ≤ w 178 x3.toNat) → Wp (Cw d) cd_M_lasts (1, 0, n1) Q 35 [mR 144, mI x1, mI x2, mI x3] [] w) : Wp (Cw d) cd_M_lasts (1, 0, n1) Q 30 [mR 144, mI x1, mI x2, mI x3] [] w :=
  Wp.s (Wp.s (Wp.s (Wp.s ⟨g1, Wp.s ⟨fun q => h1 q, fun q => h2 q⟩⟩)))
theorem M_lasts_144_b35 {d : Nat} {n1 : Int} {Q : MV → Wd → Prop} {x1 x2 x3 : Int} {w : Wd} (h : Wp (Cw d) cd_M_lasts (1, 0, n1) Q 54 [mR 144, mI x1, mI x2, mI x3] [] w) : Wp (Cw d) cd_M_lasts (1, 0, n1) Q 35 [mR 144, mI x1, mI x2, mI x3] [] w :=
  Wp.s h
theorem M_lasts_144_b36 {d : Nat} {n1 : Int} {Q : MV → Wd → Prop} {x1 x2 x3 : Int} {w : Wd} (g1 : (0 : Int) ≤ x3 ∧ x3 < 8) (g2 : (0 : Int) ≤ x1 ∧ x1 < 8) (g3 : (0 : Int) ≤ x3 ∧ x3 < 8) (h : Wp (Cw d) cd_M_lasts (1, 0, n1) Q 54 [mR 144, mI (w32 (x1 + 1)), mI (ior x2 (ishl 1 ((up1 (w 177) x1.toNat (w 177 x3.toNat)) x3.toNat))), mI x3] [] (ub w 177 x1.toNat (w 177 x3.toNat))) : Wp (Cw d) cd_M_lasts (1, 0, n1) Q 36 [mR 144, mI x1, mI x2, mI x3] [] w :=
  Wp.s (Wp.s (Wp.s (Wp.s (Wp.s (Wp.s (Wp.s ⟨g1, Wp.s ⟨g2, Wp.s (Wp.s (Wp.s (Wp.s (Wp.s (Wp.s ⟨g3, Wp.s (Wp.s (Wp.s (Wp.s h)))⟩)))))⟩⟩))))))
theorem M_lasts_144_b54 {d : Nat} {n1 : Int} {Q : MV → Wd → Prop} {x1 x2 x3 : Int} {w : Wd} (h : Wp (Cw d) cd_M_lasts (1, 0, n1) Q 26 [mR 144, mI x1, mI x2, mI (w32 (x3 + 1))] [] w) : Wp (Cw d) cd_M_lasts (1, 0, n1) Q 54 [mR 144, mI x1, mI x2, mI x3] [] w :=
  Wp.s (Wp.s h)
theorem M_lasts_144_b56 {d : Nat} {n1 : Int} {Q : MV → Wd → Prop} {x1 x2 : Int} {w : Wd} (h1 : ¬ x1 = w 144 70 → Wp (Cw d) cd_M_lasts (1, 0, n1) Q 62 [mR 144, mI x1, none, none] [] w) (h2 : ¬ (¬ x1 = w 144 70) → Wp (Cw d) cd_M_lasts (1, 0, n1) Q 60 [none, none, mI x2, none] [] w) : Wp (Cw d) cd_M_lasts (1, 0, n1) Q 56 [mR 144, mI x1, mI x2, none] [] w :=
  Wp.s (Wp.s (Wp.s (Wp.s ⟨fun q => Wp.fgd (leA.k (leA.k (leA.f (leA.f leA.e)))) (h1 q), fun q => Wp.fgd (leA.f (leA.f (leA.k (leA.f leA.e)))) (h2 q)⟩)))
theorem M_lasts_144_b60 {d : Nat} {n1 : Int} {Q : MV → Wd → Prop} {x2 : Int} {w : Wd} (h : Q (mI x2) w) : Wp (Cw d) cd_M_lasts (1, 0, n1) Q 60 [none, none, mI x2, none] [] w :=
  Wp.s (Wp.s h)
theorem M_lasts_144_b62 {d : Nat} {n1 : Int} {Q : MV → Wd → Prop} {x1 : Int} {w : Wd} (h : Wp (Cw d) cd_M_lasts (1, 0, n1) Q 11 [mR 144, none, none, none] [] (ub w 144 70 x1)) : Wp (Cw d) cd_M_lasts (1, 0, n1) Q 62 [mR 144, mI x1, none, none] [] w :=
  Wp.s (Wp.s (Wp.s (Wp.s (Wp.fgd (leA.k (leA.f (leA.f (leA.f leA.e)))) h))))
theorem M_lasts_144_b66 {d : Nat} {n1 : Int} {Q : MV → Wd → Prop} {w : Wd} (h : Q (mI ((-1))) w) : Wp (Cw d) cd_M_lasts (1, 0, n1) Q 66 [none, none, none, none] [] w :=
  Wp.s (Wp.s h)
theorem X_quarrel_0_b0 {d : Nat} {n1 : Int} {Q : MV → Wd → Prop} {x1 x2 : Int} {w : Wd} (h : Cw d 51 [mR 4, mI x1] w (fun r w' => Wp (Cw d) cd_X_quarrel (1, 0, n1) Q 4 [mR 0, mI x1, mI x2, none] [r] w')) : Wp (Cw d) cd_X_quarrel (1, 0, n1) Q 0 [mR 0, mI x1, mI x2, none] [] w :=
  Wp.s (Wp.s (Wp.s (Wp.s h)))
theorem X_quarrel_0_b4 {d : Nat} {n1 : Int} {Q : MV → Wd → Prop} {x1 x2 s0 : Int} {w : Wd} (h1 : s0 = 0 → Wp (Cw d) cd_X_quarrel (1, 0, n1) Q 13 [none, none, none, none] [] w) (h2 : ¬ (s0 = 0) → Wp (Cw d) cd_X_quarrel (1, 0, n1) Q 5 [mR 0, mI x1, mI x2, none] [] w) : Wp (Cw d) cd_X_quarrel (1, 0, n1) Q 4 [mR 0, mI x1, mI x2, none] [mI s0] w :=
  Wp.s ⟨fun q => Wp.fgd (leA.f (leA.f (leA.f (leA.f leA.e)))) (h1 q), fun q => h2 q⟩
theorem X_quarrel_0_b5 {d : Nat} {n1 : Int} {Q : MV → Wd → Prop} {x1 x2 : Int} {w : Wd} (h : Cw d 51 [mR 4, mI x2] w (fun r w' => Wp (Cw d) cd_X_quarrel (1, 0, n1) Q 9 [mR 0, mI x1, mI x2, none] [r] w')) : Wp (Cw d) cd_X_quarrel (1, 0, n1) Q 5 [mR 0, mI x1, mI x2, none] [] w :=
  Wp.s (Wp.s (Wp.s (Wp.s h)))
theorem X_quarrel_0_b9 {d : Nat} {n1 : Int} {Q : MV → Wd → Prop} {x1 x2 s0 : Int} {w : Wd} (h1 : s0 = 0 → Wp (Cw d) cd_X_quarrel (1, 0, n1) Q 13 [none, none, none, none] [] w) (h2 : ¬ (s0 = 0) → Wp (Cw d) cd_X_quarrel (1, 0, n1) Q 10 [mR 0, mI x1, mI x2, none] [] w) : Wp (Cw d) cd_X_quarrel (1, 0, n1) Q 9 [mR 0, mI x1, mI x2, none] [mI s0] w :=
  Wp.s ⟨fun q => Wp.fgd (leA.f (leA.f (leA.f (leA.f leA.e)))) (h1 q), fun q => h2 q⟩
theorem X_quarrel_0_b10 {d : Nat} {n1 : Int} {Q : MV → Wd → Prop} {x1 x2 : Int} {w : Wd} (h1 : ¬ x1 = x2 → Wp (Cw d) cd_X_quarrel (1, 0, n1) Q 15 [mR 0, mI x1, mI x2, none] [] w) (h2 : ¬ (¬ x1 = x2) → Wp (Cw d) cd_X_quarrel (1, 0, n1) Q 13 [none, none, none, none] [] w) : Wp (Cw d) cd_X_quarrel (1, 0, n1) Q 10 [mR 0, mI x1, mI x2, none] [] w :=
  Wp.s (Wp.s (Wp.s ⟨fun q => h1 q, fun q => Wp.fgd (leA.f (leA.f (leA.f (leA.f leA.e)))) (h2 q)⟩))
theorem X_quarrel_0_b13 {d : Nat} {n1 : Int} {Q : MV → Wd → Prop} {w : Wd} (h : Q (mI ((-1))) w) : Wp (Cw d) cd_X_quarrel (1, 0, n1) Q 13 [none, none, none, none] [] w :=
  Wp.s (Wp.s h)
theorem X_quarrel_0_b15 {d : Nat} {n1 : Int} {Q : MV → Wd → Prop} {x1 x2 : Int} {w : Wd} (h : Cw d 117 [mR 0] w (fun r w' => Wp (Cw d) cd_X_quarrel (1, 0, n1) Q 17 [mR 0, mI x1, mI x2, none] [r] w')) : Wp (Cw d) cd_X_quarrel (1, 0, n1) Q 15 [mR 0, mI x1, mI x2, none] [] w :=
  Wp.s (Wp.s h)
theorem X_quarrel_0_b17 {d : Nat} {n1 : Int} {Q : MV → Wd → Prop} {x1 x2 : Int} {w : Wd} (g1 : (0 : Int) ≤ w32 ((w32 (x1 * 8)) + x2) ∧ w32 ((w32 (x1 * 8)) + x2) < 64) (g2 : (0 : Int) ≤ w32 ((w32 (x2 * 8)) + x1) ∧ w32 ((w32 (x2 * 8)) + x1) < 64) (h : Cw d 57 [mR 112] (ub (ub w 116 (w32 ((w32 (x1 * 8)) + x2)).toNat ((-1))) 116 (w32 ((w32 (x2 * 8)) + x1)).toNat ((-1))) (fun _ w' => Wp (Cw d) cd_X_quarrel (1, 0, n1) Q 42 [mR 0, none, none, mR 112] [] w')) : Wp (Cw d) cd_X_quarrel (1, 0, n1) Q 17 [mR 0, mI x1, mI x2, none] [mR 112] w :=
  Wp.s (Wp.s (Wp.s (Wp.s (Wp.s (Wp.s (Wp.s (Wp.s (Wp.s (Wp.s (Wp.s (Wp.s ⟨g1, Wp.s (Wp.s (Wp.s (Wp.s (Wp.s (Wp.s (Wp.s (Wp.s (Wp.s (Wp.s (Wp.s ⟨g2, Wp.s (Wp.s (Cw_mono _ _ _ _ _ _ (fun r w' q => Wp.fgd (leA.k (leA.f (leA.f (leA.k leA.e)))) q) h))⟩))))))))))⟩)))))))))))
theorem X_quarrel_0_b42 {d : Nat} {n1 : Int} {Q : MV → Wd → Prop} {w : Wd} (h : Cw d 145 [mR 4] w (fun r w' => Wp (Cw d) cd_X_quarrel (1, 0, n1) Q 47 [none, none, none, mR 112] [r, mR 140] w')) : Wp (Cw d) cd_X_quarrel (1, 0, n1) Q 42 [mR 0, none, none, mR 112] [] w :=
  Wp.s (Wp.s (Wp.s (Wp.s (Wp.s (Cw_mono _ _ _ _ _ _ (fun r w' q => Wp.fgd (leA.f (leA.f (leA.f (leA.k leA.e)))) q) h)))))
theorem X_quarrel_0_b47 {d : Nat} {n1 : Int} {Q : MV → Wd → Prop} {s0 : Int} {w : Wd} (h : Cw d 146 [mR 112] w (fun r w' => Wp (Cw d) cd_X_quarrel (1, 0, n1) Q 49 [none, none, none, mR 112] [r, mI s0, mR 140] w')) : Wp (Cw d) cd_X_quarrel (1, 0, n1) Q 47 [none, none, none, mR 112] [mI s0, mR 140] w :=
  Wp.s (Wp.s h)
theorem X_quarrel_0_b49 {d : Nat} {n1 : Int} {Q : MV → Wd → Prop} {s0 s1 : Int} {w : Wd} (h : Cw d 87 [mR 112] (ub w 140 7 (iand s1 (ixor s0 ((-1))))) (fun r w' => Wp (Cw d) cd_X_quarrel (1, 0, n1) Q 55 [none, none, none, none] [r] w')) : Wp (Cw d) cd_X_quarrel (1, 0, n1) Q 49 [none, none, none, mR 112] [mI s0, mI s1, mR 140] w :=
  Wp.s (Wp.s (Wp.s (Wp.s (Wp.s (Wp.s (Cw_mono _ _ _ _ _ _ (fun r w' q => Wp.fgd (leA.f (leA.f (leA.f (leA.f leA.e)))) q) h))))))
theorem X_quarrel_0_b55 {d : Nat} {n1 : Int} {Q : MV → Wd → Prop} {s0 : Int} {w : Wd} (h : Q (mI s0) w) : Wp (Cw d) cd_X_quarrel (1, 0, n1) Q 55 [none, none, none, none] [mI s0] w :=
  Wp.s h
theorem M_quarrel_144_b0 {d : Nat} {n1 : Int} {Q : MV → Wd → Prop} {x1 x2 : Int} {w : Wd} (h1 : x1 = x2 → Wp (Cw d) cd_M_quarrel (1, 0, n1) Q 14 [none, none, none, none] [] (ub w 144 0 0)) (h2 : ¬ (x1 = x2) → Wp (Cw d) cd_M_quarrel (1, 0, n1) Q 6 [mR 144, mI x1, mI x2, none] [] (ub w 144 0 0)) : Wp (Cw d) cd_M_quarrel (1, 0, n1) Q 0 [mR 144, mI x1, mI x2, none] [] w :=
  Wp.s (Wp.s (Wp.s (Wp.s (Wp.s (Wp.s ⟨fun q => Wp.fgd (leA.f (leA.f (leA.f (leA.f leA.e)))) (h1 q), fun q => h2 q⟩)))))
theorem M_quarrel_144_b6 {d : Nat} {n1 : Int} {Q : MV → Wd → Prop} {x1 x2 : Int} {w : Wd} (h : Cw d 206 [mR 144, mI x1] w (fun r w' => Wp (Cw d) cd_M_quarrel (1, 0, n1) Q 9 [mR 144, mI x1, mI x2, none] [r] w')) : Wp (Cw d) cd_M_quarrel (1, 0, n1) Q 6 [mR 144, mI x1, mI x2, none] [] w :=
  Wp.s (Wp.s (Wp.s h))
theorem M_quarrel_144_b9 {d : Nat} {n1 : Int} {Q : MV → Wd → Prop} {x1 x2 s0 : Int} {w : Wd} (h1 : s0 = 0 → Wp (Cw d) cd_M_quarrel (1, 0, n1) Q 14 [none, none, none, none] [] w) (h2 : ¬ (s0 = 0) → Wp (Cw d) cd_M_quarrel (1, 0, n1) Q 10 [mR 144, mI x1, mI x2, none] [] w) : Wp (Cw d) cd_M_quarrel (1, 0, n1) Q 9 [mR 144, mI x1, mI x2, none] [mI s0] w :=
  Wp.s ⟨fun q => Wp.fgd (leA.f (leA.f (leA.f (leA.f leA.e)))) (h1 q), fun q => h2 q⟩
theorem M_quarrel_144_b10 {d : Nat} {n1 : Int} {Q : MV → Wd → Prop} {x1 x2 : Int} {w : Wd} (h : Cw d 206 [mR 144, mI x2] w (fun r w' => Wp (Cw d) cd_M_quarrel (1, 0, n1) Q 13 [mR 144, mI x1, mI x2, none] [r] w')) : Wp (Cw d) cd_M_quarrel (1, 0, n1) Q 10 [mR 144, mI x1, mI x2, none] [] w :=
  Wp.s (Wp.s (Wp.s h))
theorem M_quarrel_144_b13 {d : Nat} {n1 : Int} {Q : MV → Wd → Prop} {x1 x2 s0 : Int} {w : Wd} (h1 : ¬ s0 = 0 → Wp (Cw d) cd_M_quarrel (1, 0, n1) Q 16 [mR 144, mI x1, mI x2, none] [] w) (h2 : ¬ (¬ s0 = 0) → Wp (Cw d) cd_M_quarrel (1, 0, n1) Q 14 [none, none, none, none] [] w) : Wp (Cw d) cd_M_quarrel (1, 0, n1) Q 13 [mR 144, mI x1, mI x2, none] [mI s0] w :=
  Wp.s ⟨fun q => h1 q, fun q => Wp.fgd (leA.f (leA.f (leA.f (leA.f leA.e)))) (h2 q)⟩
theorem M_quarrel_144_b14 {d : Nat} {n1 : Int} {Q : MV → Wd → Prop} {w : Wd} (h : Q (mI ((-1))) w) : Wp (Cw d) cd_M_quarrel (1, 0, n1) Q 14 [none, none, none, none] [] w :=
  Wp.s (Wp.s h)
theorem M_quarrel_144_b16 {d : Nat} {n1 : Int} {Q : MV → Wd → Prop} {x1 x2 : Int} {w : Wd} (h : Cw d 208 [mR 144] w (fun _ w' => Wp (Cw d) cd_M_quarrel (1, 0, n1) Q 18 [mR 144, mI x1, mI x2, none] [] w')) : Wp (Cw d) cd_M_quarrel (1, 0, n1) Q 16 [mR 144, mI x1, mI x2, none] [] w :=
  Wp.s (Wp.s h)
theorem M_quarrel_144_b18 {d : Nat} {n1 : Int} {Q : MV → Wd → Prop} {x1 x2 : Int} {w : Wd} (g1 : (0 : Int) ≤ w32 ((w32 (8 * x1)) + x2) ∧ w32 ((w32 (8 * x1)) + x2) < 64) (g2 : (0 : Int) ≤ w32 ((w32 (8 * x2)) + x1) ∧ w32 ((w32 (8 * x2)) + x1) < 64) (h : Cw d 209 [mR 144] (ub (ub w 151 (w32 ((w32 (8 * x1)) + x2)).toNat 0) 151 (w32 ((w32 (8 * x2)) + x1)).toNat 0) (fun _ w' => Wp (Cw d) cd_M_quarrel (1, 0, n1) Q 38 [mR 144, none, none, none] [] w')) : Wp (Cw d) cd_M_quarrel (1, 0, n1) Q 18 [mR 144, mI x1, mI x2, none] [] w :=
  Wp.s (Wp.s (Wp.s (Wp.s (Wp.s (Wp.s (Wp.s (Wp.s (Wp.s ⟨g1, Wp.s (Wp.s (Wp.s (Wp.s (Wp.s (Wp.s (Wp.s (Wp.s (Wp.s ⟨g2, Wp.s (Wp.s (Cw_mono _ _ _ _ _ _ (fun r w' q => Wp.fgd (leA.k (leA.f (leA.f (leA.f leA.e)))) q) h))⟩))))))))⟩))))))))
theorem M_quarrel_144_b38 {d : Nat} {n1 : Int} {Q : MV → Wd → Prop} {w : Wd} (h : Cw d 228 [mR 144] w (fun _ w' => Wp (Cw d) cd_M_quarrel (1, 0, n1) Q 40 [mR 144, none, none, none] [] w')) : Wp (Cw d) cd_M_quarrel (1, 0, n1) Q 38 [mR 144, none, none, none] [] w :=
  Wp.s (Wp.s h)
theorem M_quarrel_144_b40 {d : Nat} {n1 : Int} {Q : MV → Wd → Prop} {w : Wd} (h : Wp (Cw d) cd_M_quarrel (1, 0, n1) Q 45 [mR 144, none, none, mI 0] [] (ub w 144 72 0)) : Wp (Cw d) cd_M_quarrel (1, 0, n1) Q 40 [mR 144, none, none, none] [] w :=
  Wp.s (Wp.s (Wp.s (Wp.s (Wp.s h))))
theorem M_quarrel_144_b45 {d : Nat} {n1 : Int} {Q : MV → Wd → Prop} {x3 : Int} {w : Wd} (h1 : w 146 3.toNat ≤ x3 → Wp (Cw d) cd_M_quarrel (1, 0, n1) Q 68 [mR 144, none, none, none] [] w) (h2 : ¬ (w 146 3.toNat ≤ x3) → Wp (Cw d) cd_M_quarrel (1, 0, n1) Q 51 [mR 144, none, none, mI x3] [] w) : Wp (Cw d) cd_M_quarrel (1, 0, n1) Q 45 [mR 144, none, none, mI x3] [] w :=
  Wp.s (Wp.s (Wp.s (Wp.s (Wp.s ⟨(by decide), Wp.s ⟨fun q => Wp.fgd (leA.k (leA.f (leA.f (leA.f leA.e)))) (h1 q), fun q => h2 q⟩⟩))))
theorem M_quarrel_144_b51 {d : Nat} {n1 : Int} {Q : MV → Wd → Prop} {x3 : Int} {w : Wd} (g1 : (0 : Int) ≤ x3 ∧ x3 < 8) (h1 : 0 ≤ w 167 x3.toNat → Wp (Cw d) cd_M_quarrel (1, 0, n1) Q 63 [mR 144, none, none, mI x3] [mI (w 144 72), mR 144] w) (h2 : ¬ (0 ≤ w 167 x3.toNat) → Wp (Cw d) cd_M_quarrel (1, 0, n1) Q 59 [mR 144, none, none, mI x3] [mI (w 144 72), mR 144] w) : Wp (Cw d) cd_M_quarrel (1, 0, n1) Q 51 [mR 144, none, none, mI x3] [] w :=
  Wp.s (Wp.s (Wp.s (Wp.s (Wp.s (Wp.s (Wp.s ⟨g1, Wp.s ⟨fun q => h1 q, fun q => h2 q⟩⟩))))))
theorem M_quarrel_144_b59 {d : Nat} {n1 : Int} {Q : MV → Wd → Prop} {x3 s0 : Int} {w : Wd} (h : Wp (Cw d) cd_M_quarrel (1, 0, n1) Q 64 [mR 144, none, none, mI x3] [mI (ishl 1 x3), mI s0, mR 144] w) : Wp (Cw d) cd_M_quarrel (1, 0, n1) Q 59 [mR 144, none, none, mI x3] [mI s0, mR 144] w :=
  Wp.s (Wp.s (Wp.s (Wp.s h)))
theorem M_quarrel_144_b63 {d : Nat} {n1 : Int} {Q : MV → Wd → Prop} {x3 s0 : Int} {w : Wd} (h : Wp (Cw d) cd_M_quarrel (1, 0, n1) Q 64 [mR 144, none, none, mI x3] [mI 0, mI s0, mR 144] w) : Wp (Cw d) cd_M_quarrel (1, 0, n1) Q 63 [mR 144, none, none, mI x3] [mI s0, mR 144] w :=
  Wp.s h
theorem M_quarrel_144_b64 {d : Nat} {n1 : Int} {Q : MV → Wd → Prop} {x3 s0 s1 : Int} {w : Wd} (h : Wp (Cw d) cd_M_quarrel (1, 0, n1) Q 45 [mR 144, none, none, mI (w32 (x3 + 1))] [] (ub w 144 72 (ior s1 s0))) : Wp (Cw d) cd_M_quarrel (1, 0, n1) Q 64 [mR 144, none, none, mI x3] [mI s0, mI s1, mR 144] w :=
  Wp.s (Wp.s (Wp.s (Wp.s h)))
theorem M_quarrel_144_b68 {d : Nat} {n1 : Int} {Q : MV → Wd → Prop} {w : Wd} (h : Cw d 223 [mR 144] w (fun r w' => Wp (Cw d) cd_M_quarrel (1, 0, n1) Q 70 [none, none, none, none] [r] w')) : Wp (Cw d) cd_M_quarrel (1, 0, n1) Q 68 [mR 144, none, none, none] [] w :=
  Wp.s (Wp.s (Cw_mono _ _ _ _ _ _ (fun r w' q => Wp.fgd (leA.f (leA.f (leA.f (leA.f leA.e)))) q) h))
theorem M_quarrel_144_b70 {d : Nat} {n1 : Int} {Q : MV → Wd → Prop} {s0 : Int} {w : Wd} (h : Q (mI s0) w) : Wp (Cw d) cd_M_quarrel (1, 0, n1) Q 70 [none, none, none, none] [mI s0] w :=
  Wp.s h
theorem X_starves_0_b0 {d : Nat} {n1 : Int} {Q : MV → Wd → Prop} {w : Wd} (h : Q (mI (w 140 7)) w) : Wp (Cw d) cd_X_starves (1, 0, n1) Q 0 [mR 0] [] w :=
  Wp.s (Wp.s (Wp.s (Wp.s h)))
theorem M_starves_144_b0 {d : Nat} {n1 : Int} {Q : MV → Wd → Prop} {w : Wd} (h : Q (mI ((up1 (w 144) 0 0) 72)) (ub w 144 0 0)) : Wp (Cw d) cd_M_starves (1, 0, n1) Q 0 [mR 144] [] w :=
  Wp.s (Wp.s (Wp.s (Wp.s (Wp.s (Wp.s h)))))
theorem X_mend_0_b0 {d : Nat} {n1 : Int} {Q : MV → Wd → Prop} {w : Wd} (h : Cw d 55 [mR 0] w (fun r w' => Wp (Cw d) cd_X_mend (1, 0, n1) Q 2 [mR 0, none, none, none, none, none, none] [r] w')) : Wp (Cw d) cd_X_mend (1, 0, n1) Q 0 [mR 0, none, none, none, none, none, none] [] w :=
  Wp.s (Wp.s h)
theorem X_mend_0_b2 {d : Nat} {n1 : Int} {Q : MV → Wd → Prop} {w : Wd} (h : Cw d 87 [mR 92] w (fun r w' => Wp (Cw d) cd_X_mend (1, 0, n1) Q 3 [mR 0, none, none, none, none, none, none] [r] w')) : Wp (Cw d) cd_X_mend (1, 0, n1) Q 2 [mR 0, none, none, none, none, none, none] [mR 92] w :=
  Wp.s h
theorem X_mend_0_b3 {d : Nat} {n1 : Int} {Q : MV → Wd → Prop} {s0 : Int} {w : Wd} (h : Cw d 117 [mR 0] w (fun r w' => Wp (Cw d) cd_X_mend (1, 0, n1) Q 8 [mR 0, mI s0, mI ((-1)), none, none, none, none] [r] w')) : Wp (Cw d) cd_X_mend (1, 0, n1) Q 3 [mR 0, none, none, none, none, none, none] [mI s0] w :=
  Wp.s (Wp.s (Wp.s (Wp.s (Wp.s h))))
theorem X_mend_0_b8 {d : Nat} {n1 : Int} {Q : MV → Wd → Prop} {x1 x2 : Int} {w : Wd} (h : Wp (Cw d) cd_X_mend (1, 0, n1) Q 11 [mR 0, mI x1, mI x2, mR 112, mI 0, none, none] [] w) : Wp (Cw d) cd_X_mend (1, 0, n1) Q 8 [mR 0, mI x1, mI x2, none, none, none, none] [mR 112] w :=
  Wp.s (Wp.s (Wp.s h))
theorem X_mend_0_b11 {d : Nat} {n1 : Int} {Q : MV → Wd → Prop} {x1 x2 x4 : Int} {w : Wd} (h1 : w 4 0 ≤ x4 → Wp (Cw d) cd_X_mend (1, 0, n1) Q 57 [none, none, mI x2, none, none, none, none] [] w) (h2 : ¬ (w 4 0 ≤ x4) → Wp (Cw d) cd_X_mend (1, 0, n1) Q 16 [mR 0, mI x1, mI x2, mR 112, mI x4, none, none] [] w) : Wp (Cw d) cd_X_mend (1, 0, n1) Q 11 [mR 0, mI x1, mI x2, mR 112, mI x4, none, none] [] w :=
  Wp.s (Wp.s (Wp.s (Wp.s (Wp.s ⟨fun q => Wp.fgd (leA.f (leA.f (leA.k (leA.f (leA.f (leA.f (leA.f leA.e))))))) (h1 q), fun q => h2 q⟩))))
theorem X_mend_0_b16 {d : Nat} {n1 : Int} {Q : MV → Wd → Prop} {x1 x2 x4 : Int} {w : Wd} (h1 : w 4 11 ≤ x1 → Wp (Cw d) cd_X_mend (1, 0, n1) Q 57 [none, none, mI x2, none, none, none, none] [] w) (h2 : ¬ (w 4 11 ≤ x1) → Wp (Cw d) cd_X_mend (1, 0, n1) Q 21 [mR 0, mI x1, mI x2, mR 112, mI x4, none, none] [] w) : Wp (Cw d) cd_X_mend (1, 0, n1) Q 16 [mR 0, mI x1, mI x2, mR 112, mI x4, none, none] [] w :=
  Wp.s (Wp.s (Wp.s (Wp.s (Wp.s ⟨fun q => Wp.fgd (leA.f (leA.f (leA.k (leA.f (leA.f (leA.f (leA.f leA.e))))))) (h1 q), fun q => h2 q⟩))))
theorem X_mend_0_b21 {d : Nat} {n1 : Int} {Q : MV → Wd → Prop} {x1 x2 x4 : Int} {w : Wd} (h : Wp (Cw d) cd_X_mend (1, 0, n1) Q 23 [mR 0, mI x1, mI x2, mR 112, mI x4, mI 0, none] [] w) : Wp (Cw d) cd_X_mend (1, 0, n1) Q 21 [mR 0, mI x1, mI x2, mR 112, mI x4, none, none] [] w :=
  Wp.s (Wp.s h)
theorem X_mend_0_b23 {d : Nat} {n1 : Int} {Q : MV → Wd → Prop} {x1 x2 x4 x5 : Int} {w : Wd} (h1 : w 4 0 ≤ x5 → Wp (Cw d) cd_X_mend (1, 0, n1) Q 55 [mR 0, mI x1, mI x2, mR 112, mI x4, none, none] [] w) (h2 : ¬ (w 4 0 ≤ x5) → Wp (Cw d) cd_X_mend (1, 0, n1) Q 28 [mR 0, mI x1, mI x2, mR 112, mI x4, mI x5, none] [] w) : Wp (Cw d) cd_X_mend (1, 0, n1) Q 23 [mR 0, mI x1, mI x2, mR 112, mI x4, mI x5, none] [] w :=
  Wp.s (Wp.s (Wp.s (Wp.s (Wp.s ⟨fun q => Wp.fgd (leA.k (leA.k (leA.k (leA.k (leA.k (leA.f (leA.f leA.e))))))) (h1 q), fun q => h2 q⟩))))
theorem X_mend_0_b28 {d : Nat} {n1 : Int} {Q : MV → Wd → Prop} {x1 x2 x4 x5 : Int} {w : Wd} (h1 : ¬ x4 = x5 → Wp (Cw d) cd_X_mend (1, 0, n1) Q 33 [mR 0, mI x1, mI x2, mR 112, mI x4, mI x5, none] [] w) (h2 : ¬ (¬ x4 = x5) → Wp (Cw d) cd_X_mend (1, 0, n1) Q 31 [mR 0, mI x1, mI x2, mR 112, mI x4, mI x5, none] [] w) : Wp (Cw d) cd_X_mend (1, 0, n1) Q 28 [mR 0, mI x1, mI x2, mR 112, mI x4, mI x5, none] [] w :=
  Wp.s (Wp.s (Wp.s ⟨fun q => h1 q, fun q => h2 q⟩))
theorem X_mend_0_b31 {d : Nat} {n1 : Int} {Q : MV → Wd → Prop} {x1 x2 x4 x5 : Int} {w : Wd} (h : Wp (Cw d) cd_X_mend (1, 0, n1) Q 41 [mR 0, mI x1, mI x2, mR 112, mI x4, mI x5, none] [mI ((-1))] w) : Wp (Cw d) cd_X_mend (1, 0, n1) Q 31 [mR 0, mI x1, mI x2, mR 112, mI x4, mI x5, none] [] w :=
  Wp.s (Wp.s h)
theorem X_mend_0_b33 {d : Nat} {n1 : Int} {Q : MV → Wd → Prop} {x1 x2 x4 x5 : Int} {w : Wd} (h : Cw d 149 [mR 0, mR 112, mI (w32 ((w32 (x4 * 8)) + x5))] w (fun r w' => Wp (Cw d) cd_X_mend (1, 0, n1) Q 41 [mR 0, mI x1, mI x2, mR 112, mI x4, mI x5, none] [r] w')) : Wp (Cw d) cd_X_mend (1, 0, n1) Q 33 [mR 0, mI x1, mI x2, mR 112, mI x4, mI x5, none] [] w :=
  Wp.s (Wp.s (Wp.s (Wp.s (Wp.s (Wp.s (Wp.s (Wp.s h)))))))
theorem X_mend_0_b41 {d : Nat} {n1 : Int} {Q : MV → Wd → Prop} {x1 x2 x4 x5 s0 : Int} {w : Wd} (h1 : s0 ≤ x1 → Wp (Cw d) cd_X_mend (1, 0, n1) Q 53 [mR 0, mI x1, mI x2, mR 112, mI x4, mI x5, none] [] w) (h2 : ¬ (s0 ≤ x1) → Wp (Cw d) cd_X_mend (1, 0, n1) Q 45 [mR 0, none, none, mR 112, mI x4, mI x5, mI s0] [] w) : Wp (Cw d) cd_X_mend (1, 0, n1) Q 41 [mR 0, mI x1, mI x2, mR 112, mI x4, mI x5, none] [mI s0] w :=
  Wp.s (Wp.s (Wp.s (Wp.s ⟨fun q => Wp.fgd (leA.k (leA.k (leA.k (leA.k (leA.k (leA.k (leA.f leA.e))))))) (h1 q), fun q => Wp.fgd (leA.k (leA.f (leA.f (leA.k (leA.k (leA.k (leA.k leA.e))))))) (h2 q)⟩)))
theorem X_mend_0_b45 {d : Nat} {n1 : Int} {Q : MV → Wd → Prop} {x4 x5 x6 : Int} {w : Wd} (h : Wp (Cw d) cd_X_mend (1, 0, n1) Q 53 [mR 0, mI x6, mI (w32 ((w32 (10 * x4)) + x5)), mR 112, mI x4, mI x5, none] [] w) : Wp (Cw d) cd_X_mend (1, 0, n1) Q 45 [mR 0, none, none, mR 112, mI x4, mI x5, mI x6] [] w :=
  Wp.s (Wp.s (Wp.s (Wp.s (Wp.s (Wp.s (Wp.s (Wp.s (Wp.fgd (leA.k (leA.k (leA.k (leA.k (leA.k (leA.k (leA.f leA.e))))))) h))))))))
theorem X_mend_0_b53 {d : Nat} {n1 : Int} {Q : MV → Wd → Prop} {x1 x2 x4 x5 : Int} {w : Wd} (h : Wp (Cw d) cd_X_mend (1, 0, n1) Q 23 [mR 0, mI x1, mI x2, mR 112, mI x4, mI (w32 (x5 + 1)), none] [] w) : Wp (Cw d) cd_X_mend (1, 0, n1) Q 53 [mR 0, mI x1, mI x2, mR 112, mI x4, mI x5, none] [] w :=
  Wp.s (Wp.s h)
theorem X_mend_0_b55 {d : Nat} {n1 : Int} {Q : MV → Wd → Prop} {x1 x2 x4 : Int} {w : Wd} (h : Wp (Cw d) cd_X_mend (1, 0, n1) Q 11 [mR 0, mI x1, mI x2, mR 112, mI (w32 (x4 + 1)), none, none] [] w) : Wp (Cw d) cd_X_mend (1, 0, n1) Q 55 [mR 0, mI x1, mI x2, mR 112, mI x4, none, none] [] w :=
  Wp.s (Wp.s h)
theorem X_mend_0_b57 {d : Nat} {n1 : Int} {Q : MV → Wd → Prop} {x2 : Int} {w : Wd} (h : Q (mI x2) w) : Wp (Cw d) cd_X_mend (1, 0, n1) Q 57 [none, none, mI x2, none, none, none, none] [] w :=
  Wp.s (Wp.s h)
theorem M_mend_144_b0 {d : Nat} {n1 : Int} {Q : MV → Wd → Prop} {w : Wd} (h : Cw d 208 [mR 144] (ub w 144 0 0) (fun _ w' => Wp (Cw d) cd_M_mend (1, 0, n1) Q 5 [mR 144, none, none, none, none, none] [] w')) : Wp (Cw d) cd_M_mend (1, 0, n1) Q 0 [mR 144, none, none, none, none, none] [] w :=
  Wp.s (Wp.s (Wp.s (Wp.s (Wp.s h))))
theorem M_mend_144_b5 {d : Nat} {n1 : Int} {Q : MV → Wd → Prop} {w : Wd} (h : Cw d 209 [mR 144] w (fun _ w' => Wp (Cw d) cd_M_mend (1, 0, n1) Q 7 [mR 144, none, none, none, none, none] [] w')) : Wp (Cw d) cd_M_mend (1, 0, n1) Q 5 [mR 144, none, none, none, none, none] [] w :=
  Wp.s (Wp.s h)
theorem M_mend_144_b7 {d : Nat} {n1 : Int} {Q : MV → Wd → Prop} {w : Wd} (h : Cw d 223 [mR 144] w (fun r w' => Wp (Cw d) cd_M_mend (1, 0, n1) Q 9 [mR 144, none, none, none, none, none] [r] w')) : Wp (Cw d) cd_M_mend (1, 0, n1) Q 7 [mR 144, none, none, none, none, none] [] w :=
  Wp.s (Wp.s h)
theorem M_mend_144_b9 {d : Nat} {n1 : Int} {Q : MV → Wd → Prop} {s0 : Int} {w : Wd} (h : Wp (Cw d) cd_M_mend (1, 0, n1) Q 14 [mR 144, mI s0, mI ((-1)), mI 0, none, none] [] w) : Wp (Cw d) cd_M_mend (1, 0, n1) Q 9 [mR 144, none, none, none, none, none] [mI s0] w :=
  Wp.s (Wp.s (Wp.s (Wp.s (Wp.s h))))
theorem M_mend_144_b14 {d : Nat} {n1 : Int} {Q : MV → Wd → Prop} {x1 x2 x3 : Int} {w : Wd} (h1 : w 146 0.toNat ≤ x3 → Wp (Cw d) cd_M_mend (1, 0, n1) Q 101 [none, none, mI x2, none, none, none] [] w) (h2 : ¬ (w 146 0.toNat ≤ x3) → Wp (Cw d) cd_M_mend (1, 0, n1) Q 20 [mR 144, mI x1, mI x2, mI x3, none, none] [] w) : Wp (Cw d) cd_M_mend (1, 0, n1) Q 14 [mR 144, mI x1, mI x2, mI x3, none, none] [] w :=
  Wp.s (Wp.s (Wp.s (Wp.s (Wp.s ⟨(by decide), Wp.s ⟨fun q => Wp.fgd (leA.f (leA.f (leA.k (leA.f (leA.f (leA.f leA.e)))))) (h1 q), fun q => h2 q⟩⟩))))
theorem M_mend_144_b20 {d : Nat} {n1 : Int} {Q : MV → Wd → Prop} {x1 x2 x3 : Int} {w : Wd} (h : Wp (Cw d) cd_M_mend (1, 0, n1) Q 22 [mR 144, mI x1, mI x2, mI x3, mI 0, none] [] w) : Wp (Cw d) cd_M_mend (1, 0, n1) Q 20 [mR 144, mI x1, mI x2, mI x3, none, none] [] w :=
  Wp.s (Wp.s h)
theorem M_mend_144_b22 {d : Nat} {n1 : Int} {Q : MV → Wd → Prop} {x1 x2 x3 x4 : Int} {w : Wd} (h1 : w 146 0.toNat ≤ x4 → Wp (Cw d) cd_M_mend (1, 0, n1) Q 99 [mR 144, mI x1, mI x2, mI x3, none, none] [] w) (h2 : ¬ (w 146 0.toNat ≤ x4) → Wp (Cw d) cd_M_mend (1, 0, n1) Q 28 [mR 144, mI x1, mI x2, mI x3, mI x4, none] [] w) : Wp (Cw d) cd_M_mend (1, 0, n1) Q 22 [mR 144, mI x1, mI x2, mI x3, mI x4, none] [] w :=
  Wp.s (Wp.s (Wp.s (Wp.s (Wp.s ⟨(by decide), Wp.s ⟨fun q => Wp.fgd (leA.k (leA.k (leA.k (leA.k (leA.f (leA.f leA.e)))))) (h1 q), fun q => h2 q⟩⟩))))

/-! the pair of plan -/
theorem dcP_sub : ∀ c, c ∈ (0 :: dcP) → c ∈ [0, 28, 29, 30, 31, 146, 149] ++ scrR := by decide
theorem P_plan {d : Nat} {w : Wd} (h : Inv w) : Pair (d + 30) 97 231 [] w := by
  have T := h.tape
  have Tl := T.len
  have Tlo := T.lo
  have Thi := T.hi
  have un := h.ws.un
  have pe := h.ws.pe
  obtain ⟨L, hL⟩ : ∃ L : Nat, w 0 1 = L := ⟨(w 0 1).toNat, by omega⟩
  obtain ⟨x, hxt, hxL, hxM⟩ : ∃ x : Tx, x.t = w 1 ∧ x.L = L ∧ x.M = 500 := ⟨(w 1, L, 500), rfl, rfl, rfl⟩
  have hx : TxO x := TxO.mk (by omega) (by omega) (fun i hi => by rw [hxt, T.oct i hi]; exact oct_bd _)
  have tapeM : ∀ i, i < 1040 → iand (w 145 i) 255 = x.t i := fun i hi => by rw [hxt]; exact (T.oct i hi).symm
  have nr : NmR (w 5) (w 149) 0 (w 146 0) := fun p hp => by
    rw [Nat.zero_add]
    exact h.rv.pnames p hp
  unfold Pair
  apply X_plan_0_en (d := d + 28)
  rw [hL]
  apply Tokens_start_2_en (d := d + 28)
  generalize hW0 : ub (ub (ub (ub (ub w 0 1 0) 2 2 (min (L : Int) 1040)) 2 3 (min (min (L : Int) 1040) 500)) 2 4 0) 2 8 0 = W0
  have c2 : W0 2 2 = min (L : Int) 1040 := by rw [← hW0]; rfl
  have c3 : W0 2 3 = min (min (L : Int) 1040) 500 := by rw [← hW0]; rfl
  have c4 : W0 2 4 = ((0 : Nat) : Int) := by rw [← hW0]; rfl
  have c8 : W0 2 8 = 0 := by rw [← hW0]; rfl
  have f0 : Fr (0 :: dcP) w W0 := by
    rw [← hW0]
    exact (by repeat' (first | exact Fr.rfl' _ _ | assumption | (refine Fr.ubf ?_ (by decide)) | (refine Fr.ub ?_ (by decide))))
  have t0 : ∀ i, i < 1040 → W0 1 i = x.t i := fun i hi => by rw [f0 1 (by decide), hxt]
  have k0 : ∀ i, i < 17 → W0 3 i = nthA 0 tokK i := fun i hi => by rw [f0 3 (by decide)]; exact h.words i hi
  have z01 : W0 0 = up1 (w 0) 1 0 := by rw [← hW0]; rfl
  clear hW0
  refine S_advance (d := d + 25) hx t0 k0 (p := 0) (Nat.zero_le _) (by rw [c2, hxL]; omega) (by rw [c3, show rdb x = min x.L x.M from rfl]; omega) c4 (fun o ho o8 _ => ?_)
  have hs : CSt x 0 (ubf W0 2 o) := CSt.mk hx (by rw [ubf_self]; exact ClT_K ho) (by rw [ubf_self, o8]; exact c8) t0 k0
  have f1 : Fr (0 :: dcP) w (ubf W0 2 o) := f0.ubf (by decide)
  refine L_plan (d := d + 20) (U := w 146 2) (P := w 146 0) (nm := w 149) (a0 := fun _ => 0) (b0 := fun _ => 0) (c0 := fun _ => 0) hs (Nat.zero_le _) un pe (by rw [f1 4 (by decide)]; exact h.rv.units) (by rw [f1 4 (by decide)]; exact h.rv.people) (by rw [f1 5 (by decide)]; exact nr) (fun e w2 he fr hc => ⟨_, rfl, fun _ => ?_, fun y => ?_⟩) (fun k a b c w2 he hk fr ok A => ⟨_, rfl, fun y => by exfalso; omega, fun _ => ?_⟩)
  · -- a fault
    have fw : Fr (0 :: dcP) w w2 := f1.tr fr (fun c hc2 => List.mem_cons_of_mem _ hc2)
    have e0 : w2 0 = up1 (w 0) 1 0 := by rw [fr 0 (by decide)]; exact z01
    apply Mid.k
    have b144 : (ub w2 0 2 (w2 2 8)) 144 = w 144 := fw 144 (by decide)
    have b147 : (ub w2 0 2 (w2 2 8)) 147 = w 147 := fw 147 (by decide)
    have b149 : (ub w2 0 2 (w2 2 8)) 149 = w 149 := fw 149 (by decide)
    have b145 : (ub w2 0 2 (w2 2 8)) 145 = w 145 := fw 145 (by decide)
    have b146 : (ub w2 0 2 (w2 2 8)) 146 = w 146 := fw 146 (by decide)
    have b150 : (ub w2 0 2 (w2 2 8)) 150 = w 150 := fw 150 (by decide)
    rw [← M3_self (ub w2 0 2 (w2 2 8)), b144, b147, b149]
    refine N_plan (d := d + 21) (x := x) (a0 := fun _ => 0) (b0 := fun _ => 0) (c0 := fun _ => 0) hx hxM (by rw [← Tl, hL, hxL]) (by rw [b145]; exact tapeM) (by rw [b150]; exact h.reserved) (by rw [b146]; exact un) (by rw [b146]; exact pe) (fun e2 g2 ac2 he2 f e20 hb => ?_) (fun k a b c g2 ac2 s2 he2 => by rw [b146, he] at he2; cases he2)
    rw [b146, he] at he2
    injection he2 with he2
    subst he2
    have hF : Fr ([0, 28, 29, 30, 31, 146, 149] ++ scrR) w (M3 (ubf (ub w2 0 2 (w2 2 8)) 148 ac2) g2 (w 147) (w 149)) := fun c hc2 => by
      rw [M3_ne (fun z => hc2 (by rw [z]; decide)) (fun z => hc2 (by rw [z]; decide)) (fun z => hc2 (by rw [z]; decide)), ubf_ne _ (fun z => hc2 (by rw [z]; decide)), ub_ne _ _ (fun z => hc2 (by rw [z]; decide))]
      exact fw c (fun z => hc2 (dcP_sub c z))
    refine Post.k rfl (Inv.g_plan h hF ?_ (fun i hi => ?_) ?_ ?_ (fun i hi => ?_) (fun i hi => ?_) ?_ ?_) ?_ ?_
    · show (up1 (w2 0) 2 (w2 2 8)) 12 = _
      rw [e0]; rfl
    · simp only [List.mem_cons, List.not_mem_nil, or_false] at hi
      rw [M3_g]
      exact f i (by omega) (by omega)
    · show RT ((up1 (w2 0) 2 (w2 2 8)) 1) ((M3 (ubf (ub w2 0 2 (w2 2 8)) 148 ac2) g2 (w 147) (w 149)) 144 2) (w2 1) (w2 145)
      rw [M3_g, e20, e0, fw 1 (by decide), fw 145 (by decide)]
      exact RT.mk rfl (by omega) (by omega) T.oct
    · rw [M3_g, hb.1]
      show (up1 (w2 0) 2 (w2 2 8)) 2 = _
      rw [up1_self]; exact hc.1
    · show w2 146 i = _
      rw [fw 146 (by decide)]
    · rfl
    · show WP (w2 146)
      rw [fw 146 (by decide)]; exact h.wp
    · show RP (w2 28) (w2 29) (w2 30) (w2 31) (w2 146)
      rw [fw 28 (by decide), fw 29 (by decide), fw 30 (by decide), fw 31 (by decide), fw 146 (by decide)]
      exact h.rp
    · show w2 401 = _
      exact fw 401 (by decide)
    · show w2 400 = _
      exact fw 400 (by decide)
  · exfalso
    have eo := planF_ok x (w 146 2) (w 146 0) (w 149) 1041 (0, fun _ => 0, fun _ => 0, fun _ => 0) 0 e he
    have er : rdb x ≤ x.L := Nat.min_le_left _ _
    apply y
    rw [w32_id (by unfold in32; omega)]
    omega
  · -- a plan
    have fw : Fr (0 :: dcP) w w2 := f1.tr fr (fun c hc2 => List.mem_cons_of_mem _ hc2)
    have e0 : w2 0 = up1 (w 0) 1 0 := by rw [fr 0 (by decide)]; exact z01
    refine S_copyP_28_32 (d := d + 27) (fun g1 g2 g3 a1 a2 a3 => ?_)
    apply Mid.k
    generalize hB : ubf (ubf (ubf (ub (ub w2 0 2 (w2 2 8)) 28 0 ((ub w2 0 2 (w2 2 8)) 32 0)) 29 g1) 30 g2) 31 g3 = B
    have fB : Fr [0, 28, 29, 30, 31] w2 B := by
      rw [← hB]
      exact (by repeat' (first | exact Fr.rfl' _ _ | assumption | (refine Fr.ubf ?_ (by decide)) | (refine Fr.ub ?_ (by decide))))
    have B0 : B 0 = up1 (w2 0) 2 (w2 2 8) := by rw [← hB]; rfl
    have B28 : B 28 0 = w2 32 0 := by rw [← hB]; rfl
    have B29 : B 29 = g1 := by rw [← hB]; rfl
    have B30 : B 30 = g2 := by rw [← hB]; rfl
    have B31 : B 31 = g3 := by rw [← hB]; rfl
    clear hB
    have b144 : B 144 = w 144 := by rw [fB 144 (by decide)]; exact fw 144 (by decide)
    have b147 : B 147 = w 147 := by rw [fB 147 (by decide)]; exact fw 147 (by decide)
    have b149 : B 149 = w 149 := by rw [fB 149 (by decide)]; exact fw 149 (by decide)
    have b145 : B 145 = w 145 := by rw [fB 145 (by decide)]; exact fw 145 (by decide)
    have b146 : B 146 = w 146 := by rw [fB 146 (by decide)]; exact fw 146 (by decide)
    have b150 : B 150 = w 150 := by rw [fB 150 (by decide)]; exact fw 150 (by decide)
    rw [← M3_self B, b144, b147, b149]
    refine N_plan (d := d + 21) (x := x) (a0 := fun _ => 0) (b0 := fun _ => 0) (c0 := fun _ => 0) hx hxM (by rw [← Tl, hL, hxL]) (by rw [b145]; exact tapeM) (by rw [b150]; exact h.reserved) (by rw [b146]; exact un) (by rw [b146]; exact pe) (fun e2 g2 ac2 he2 => by rw [b146, he] at he2; cases he2) (fun k2 u v y gm ac2 s2 he2 hk2 f e20 e15 W s333 s1 s3 => ?_)
    rw [b146, he] at he2
    injection he2 with he2
    injection he2 with hk1 he2
    injection he2 with hu he2
    injection he2 with hv hy
    subst hk1 hu hv hy
    rw [b146] at W s3
    have hF : Fr ([0, 28, 29, 30, 31, 146, 149] ++ scrR) w (ubf (M3 (ubf B 148 ac2) gm (w 147) (w 149)) 146 s2) := fun c hc2 => by
      rw [ubf_ne _ (fun z => hc2 (by rw [z]; decide)), M3_ne (fun z => hc2 (by rw [z]; decide)) (fun z => hc2 (by rw [z]; decide)) (fun z => hc2 (by rw [z]; decide)), ubf_ne _ (fun z => hc2 (by rw [z]; decide)), fB c (fun z => by
        simp only [List.mem_cons, List.not_mem_nil, or_false] at z
        exact hc2 (by rcases z with z | z | z | z | z <;> rw [z] <;> decide))]
      exact fw c (fun z => hc2 (dcP_sub c z))
    refine Post.k rfl (Inv.g_plan h hF ?_ (fun i hi => ?_) ?_ ?_ (fun i hi => ?_) (fun i hi => ?_) ?_ ?_) ?_ ?_
    · show B 0 12 = _
      rw [B0, e0]; rfl
    · simp only [List.mem_cons, List.not_mem_nil, or_false] at hi
      show (M3 (ubf B 148 ac2) gm (w 147) (w 149)) 144 i = _
      rw [M3_g]
      exact f i (by omega) (by omega)
    · show RT (B 0 1) ((M3 (ubf B 148 ac2) gm (w 147) (w 149)) 144 2) (B 1) (B 145)
      rw [M3_g, e20, B0, e0, fB 1 (by decide), fB 145 (by decide), fw 1 (by decide), fw 145 (by decide)]
      exact RT.mk rfl (by omega) (by omega) T.oct
    · show B 0 2 = (M3 (ubf B 148 ac2) gm (w 147) (w 149)) 144 15
      rw [M3_g, e15, B0, up1_self]; exact ok
    · show s2 i = _
      exact s3 i hi
    · rfl
    · exact PlanW.wp W hk s333 (s3 0 (by omega)) (s3 2 (by omega)) s1
    · show RP (B 28) (B 29) (B 30) (B 31) s2
      refine PlanW.rp s333 s1 (by rw [B28]; exact A.1) (fun i hi => ?_)
      rw [B29, B30, B31, a1 i (by omega), a2 i (by omega), a3 i (by omega)]
      exact A.2 i hi
    · show B 401 = _
      rw [fB 401 (by decide)]; exact fw 401 (by decide)
    · show B 400 = _
      rw [fB 400 (by decide)]; exact fw 400 (by decide)

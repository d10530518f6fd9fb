theorem P_hand {d : Nat} {w : Wd} (h : Inv w) (x : Int) : Pair (d + 3) 85 221 [mI x] w := by
  have k0 : Inv (ub w 144 0 0) := (Inv.mk h.tape h.fault h.ws h.wp h.wb h.rv h.rp h.rb h.im0 h.im1 h.stale h.told h.wat h.hands h.hand h.askers h.asked h.gainers h.gained h.mid h.star h.done h.day h.shown h.words h.reserved)
  obtain ⟨h1, h2, h3⟩ := h.hands
  unfold Pair
  apply X_hand_0_en
  (repeat' (apply spl <;> intro))
  · refine ⟨_, rfl, ?_⟩; apply M_hand_144_en; (repeat' (apply spl <;> intro))
    all_goals first | exact ⟨rfl, k0, rfl, rfl⟩ | (exfalso; omega)
  · refine ⟨by omega, ?_⟩
    refine ⟨_, rfl, ?_⟩; apply M_hand_144_en; (repeat' (apply spl <;> intro))
    · exfalso; omega
    · exfalso; ((try simp (disch := (unfold in32; omega)) only [w32_id] at *); (try simp (disch := (unfold in32; omega)) only [w32_id] at *)); omega
    · refine ⟨?_, k0, rfl, rfl⟩
      have e := h.hand x.toNat (by omega)
      rw [e, w32_id (by unfold in32; omega), Int.toNat_of_nonneg (by omega)]
  · refine ⟨_, rfl, ?_⟩; apply M_hand_144_en; (repeat' (apply spl <;> intro))
    all_goals first | exact ⟨rfl, k0, rfl, rfl⟩ | (exfalso; ((try simp (disch := (unfold in32; omega)) only [w32_id] at *); (try simp (disch := (unfold in32; omega)) only [w32_id] at *)); omega)
theorem P_restOf {d : Nat} {w : Wd} (h : Inv w) (x : Int) : Pair (d + 3) 125 253 [mI x] w := by
  have k0 : Inv (ub w 144 0 0) := (Inv.mk h.tape h.fault h.ws h.wp h.wb h.rv h.rp h.rb h.im0 h.im1 h.stale h.told h.wat h.hands h.hand h.askers h.asked h.gainers h.gained h.mid h.star h.done h.day h.shown h.words h.reserved)
  obtain ⟨h1, h2, h3⟩ := h.askers
  unfold Pair
  apply X_restOf_0_en
  (repeat' (apply spl <;> intro))
  · refine ⟨_, rfl, ?_⟩; apply M_restOf_144_en; (repeat' (apply spl <;> intro))
    all_goals first | exact ⟨rfl, k0, rfl, rfl⟩ | (exfalso; omega)
  · refine ⟨by omega, ?_⟩
    refine ⟨_, rfl, ?_⟩; apply M_restOf_144_en; (repeat' (apply spl <;> intro))
    · exfalso; omega
    · exfalso; ((try simp (disch := (unfold in32; omega)) only [w32_id] at *); (try simp (disch := (unfold in32; omega)) only [w32_id] at *)); omega
    · refine ⟨by omega, ?_, k0, rfl, rfl⟩
      rw [h.asked x.toNat (by omega)]
  · refine ⟨_, rfl, ?_⟩; apply M_restOf_144_en; (repeat' (apply spl <;> intro))
    all_goals first | exact ⟨rfl, k0, rfl, rfl⟩ | (exfalso; ((try simp (disch := (unfold in32; omega)) only [w32_id] at *); (try simp (disch := (unfold in32; omega)) only [w32_id] at *)); omega)
theorem P_middleBy {d : Nat} {w : Wd} (h : Inv w) : Pair (d + 3) 127 251 [] w := by
  have k0 : Inv (ub w 144 0 0) := (Inv.mk h.tape h.fault h.ws h.wp h.wb h.rv h.rp h.rb h.im0 h.im1 h.stale h.told h.wat h.hands h.hand h.askers h.asked h.gainers h.gained h.mid h.star h.done h.day h.shown h.words h.reserved)
  have e := h.mid
  (unfold Pair; apply X_middleBy_0_en; (repeat' (apply spl <;> intro)); all_goals apply Mid.k; all_goals apply M_middleBy_144_en; all_goals (repeat' (apply spl <;> intro)))
  exact ⟨by rw [e], k0, rfl, rfl⟩
theorem P_starves {d : Nat} {w : Wd} (h : Inv w) : Pair (d + 3) 147 264 [] w := by
  have k0 : Inv (ub w 144 0 0) := (Inv.mk h.tape h.fault h.ws h.wp h.wb h.rv h.rp h.rb h.im0 h.im1 h.stale h.told h.wat h.hands h.hand h.askers h.asked h.gainers h.gained h.mid h.star h.done h.day h.shown h.words h.reserved)
  have e := h.star
  (unfold Pair; apply X_starves_0_en; (repeat' (apply spl <;> intro)); all_goals apply Mid.k; all_goals apply M_starves_144_en; all_goals (repeat' (apply spl <;> intro)))
  exact ⟨by rw [e], k0, rfl, rfl⟩
theorem P_judged {d : Nat} {w : Wd} (h : Inv w) (x : Int) : Pair (d + 3) 114 245 [mI x] w := by
  have k0 : Inv (ub w 144 0 0) := (Inv.mk h.tape h.fault h.ws h.wp h.wb h.rv h.rp h.rb h.im0 h.im1 h.stale h.told h.wat h.hands h.hand h.askers h.asked h.gainers h.gained h.mid h.star h.done h.day h.shown h.words h.reserved)
  have e := h.done
  (unfold Pair; apply X_judged_0_en; (repeat' (apply spl <;> intro)); all_goals apply Mid.k; all_goals apply M_judged_144_en; all_goals (repeat' (apply spl <;> intro)))
  all_goals first
    | (exfalso; omega)
    | exact ⟨rfl, k0, rfl, rfl⟩
    | (have g := h.day (by omega)
       refine ⟨by omega, ?_, k0, rfl, rfl⟩
       subst x
       first
       | exact congrArg mI g.1.symm
       | exact congrArg mI g.2.1.symm
       | exact congrArg mI g.2.2.1.symm
       | exact congrArg mI g.2.2.2.1.symm
       | exact congrArg mI g.2.2.2.2.symm)
theorem P_holds {d : Nat} {w : Wd} (h : Inv w) (x y : Int) : Pair (d + 3) 115 246 [mI x, mI y] w := by
  have k0 : Inv (ub w 144 0 0) := (Inv.mk h.tape h.fault h.ws h.wp h.wb h.rv h.rp h.rb h.im0 h.im1 h.stale h.told h.wat h.hands h.hand h.askers h.asked h.gainers h.gained h.mid h.star h.done h.day h.shown h.words h.reserved)
  have e := h.done
  unfold Pair
  apply X_holds_0_en
  (repeat' (apply spl <;> intro))
  all_goals first
    | refine ⟨by omega, _, rfl, ?_⟩
    | refine ⟨_, rfl, ?_⟩
  all_goals apply M_holds_144_en
  all_goals (repeat' (apply spl <;> intro))
  all_goals first
    | exact ⟨rfl, k0, rfl, rfl⟩
    | (exfalso; omega)
    | (exfalso; ((try simp (disch := (unfold in32; omega)) only [w32_id] at *); (try simp (disch := (unfold in32; omega)) only [w32_id] at *)); omega)
    | (((try simp (disch := (unfold in32; omega)) only [w32_id] at *); (try simp (disch := (unfold in32; omega)) only [w32_id] at *))
       have g := h.shown (by omega) x.toNat (by omega)
       have t : (x.toNat : Int) = x := Int.toNat_of_nonneg (by omega)
       refine ⟨by omega, ?_, k0, rfl, rfl⟩
       subst y
       first
       | (rw [g.1]; exact congrArg mI (ix_eq (by omega)))
       | (rw [g.2.1]; exact congrArg mI (ix_eq (by omega)))
       | (rw [t] at g; rw [g.2.2]; exact congrArg mI (ix_eq (by omega))))

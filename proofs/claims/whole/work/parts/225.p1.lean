theorem P_end {d : Nat} {w : Wd} (h : Inv w) (x : Int) : Pair (d + 3) 14 171 [mI x] w := by
  have h1 := h.tape.len
  have h2 := h.tape.hi
  have k0 : Inv (ub w 144 0 0) := (Inv.mk h.tape h.fault h.ws h.wp h.wb h.rv h.rp h.rb h.im0 h.im1 h.stale h.told h.wat h.hands h.hand h.askers h.asked h.gainers h.gained h.mid h.star h.done h.day h.shown h.words h.reserved)
  unfold Pair
  apply X_end_0_en
  (repeat' (apply spl <;> intro))
  all_goals refine ⟨_, rfl, ?_⟩
  all_goals apply M_end_144_en
  all_goals (repeat' (apply spl <;> intro))
  all_goals first
    | (exfalso; omega)
    | (exfalso; (simp (decide := true) only [ub, ubf, up1, ↓reduceIte, reduceIte] at *); omega)
    | exact ⟨rfl, k0, rfl, rfl⟩
    | (refine ⟨rfl, (Inv.mk (⟨rfl, by (simp (decide := true) only [ub, ubf, up1, ↓reduceIte, reduceIte] at *); omega, by (simp (decide := true) only [ub, ubf, up1, ↓reduceIte, reduceIte] at *); omega, h.tape.oct⟩) h.fault h.ws h.wp h.wb h.rv h.rp h.rb h.im0 h.im1 h.stale h.told h.wat h.hands h.hand h.askers h.asked h.gainers h.gained h.mid h.star h.done h.day h.shown h.words h.reserved), rfl, rfl⟩)
theorem P_fault {d : Nat} {w : Wd} (h : Inv w) : Pair (d + 3) 49 197 [] w := by
  have k0 : Inv (ub w 144 0 0) := (Inv.mk h.tape h.fault h.ws h.wp h.wb h.rv h.rp h.rb h.im0 h.im1 h.stale h.told h.wat h.hands h.hand h.askers h.asked h.gainers h.gained h.mid h.star h.done h.day h.shown h.words h.reserved)
  have e := h.fault
  (unfold Pair; apply X_fault_0_en; (repeat' (apply spl <;> intro)); all_goals apply Mid.k; all_goals apply M_fault_144_en; all_goals (repeat' (apply spl <;> intro)))
  exact ⟨by rw [e], k0, rfl, rfl⟩
theorem P_count {d : Nat} {w : Wd} (h : Inv w) (x : Int) : Pair (d + 3) 167 275 [mI x] w := by
  have k0 : Inv (ub w 144 0 0) := (Inv.mk h.tape h.fault h.ws h.wp h.wb h.rv h.rp h.rb h.im0 h.im1 h.stale h.told h.wat h.hands h.hand h.askers h.asked h.gainers h.gained h.mid h.star h.done h.day h.shown h.words h.reserved)
  (unfold Pair; apply X_count_0_en; (repeat' (apply spl <;> intro)); all_goals apply Mid.k; all_goals apply M_count_144_en; all_goals (repeat' (apply spl <;> intro)))
  all_goals first
    | (exfalso; omega)
    | exact ⟨rfl, k0, rfl, rfl⟩
    | exact ⟨congrArg mI h.rv.people.symm, k0, rfl, rfl⟩
    | exact ⟨congrArg mI h.rv.sorts.symm, k0, rfl, rfl⟩
    | exact ⟨congrArg mI h.rv.units.symm, k0, rfl, rfl⟩
    | exact ⟨congrArg mI h.rv.wants.symm, k0, rfl, rfl⟩
    | exact ⟨congrArg mI h.rv.n.symm, k0, rfl, rfl⟩
    | exact ⟨congrArg mI h.rv.back.symm, k0, rfl, rfl⟩
    | exact ⟨congrArg mI h.rp.acts.symm, k0, rfl, rfl⟩
    | exact ⟨congrArg mI h.rb.notes.symm, k0, rfl, rfl⟩
    | exact ⟨congrArg mI h.tape.len.symm, k0, rfl, rfl⟩
